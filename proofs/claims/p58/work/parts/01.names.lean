def RX0 : String := "TrolleyPlanner$Facts"
def TX0 : u_T := fun k => match k with
  | 0 => ("TrolleyPlanner$Facts", "hasTrain", "[Z", true)
  | 1 => ("TrolleyPlanner$Facts", "arrival", "[I", true)
  | 2 => ("TrolleyPlanner$Facts", "carCount", "[I", true)
  | 3 => ("TrolleyPlanner$Facts", "doorPlace", "[I", true)
  | 4 => ("TrolleyPlanner$Facts", "firstClass", "[I", true)
  | 5 => ("TrolleyPlanner$Facts", "secondClass", "[I", true)
  | 6 => ("TrolleyPlanner$Facts", "mealName", "[J", true)
  | 7 => ("TrolleyPlanner$Facts", "firstRate", "[I", true)
  | 8 => ("TrolleyPlanner$Facts", "secondRate", "[I", true)
  | 9 => ("TrolleyPlanner$Facts", "kitchenPlace", "[I", true)
  | 10 => ("TrolleyPlanner$Facts", "kitchen", "[I", true)
  | 11 => ("TrolleyPlanner$Facts", "capacity", "[I", true)
  | 12 => ("TrolleyPlanner$Facts", "speed", "[I", true)
  | 13 => ("TrolleyPlanner$Facts", "loadUnits", "[I", true)
  | 14 => ("TrolleyPlanner$Facts", "unloadUnits", "[I", true)
  | 15 => ("TrolleyPlanner$Facts", "mealCount", "I", false)
  | 16 => ("TrolleyPlanner$Facts", "kitchenCount", "I", false)
  | _ => ("TrolleyPlanner$Facts", "trolleyCount", "I", false)
def tyX0 : Nat → FieldType := fun k => match k with
  | 0 => .array .boolean
  | 1 => .array .int
  | 2 => .array .int
  | 3 => .array .int
  | 4 => .array .int
  | 5 => .array .int
  | 6 => .array .long
  | 7 => .array .int
  | 8 => .array .int
  | 9 => .array .int
  | 10 => .array .int
  | 11 => .array .int
  | 12 => .array .int
  | 13 => .array .int
  | 14 => .array .int
  | 15 => .int
  | 16 => .int
  | _ => .int
theorem nmX0 : ∀ a, a < 18 → ∀ b, b < 18 → a ≠ b → (TX0 a).2.1 ≠ (TX0 b).2.1 := by decide +kernel
theorem tyX0_ok : ∀ k, k < 18 → parseFieldDescriptor (TX0 k).2.2.1 = some (tyX0 k) := by decide +kernel
abbrev cX0_init : ByteArray := prog_2_method_1_code
def yX0_init : MethodName := ⟨RX0, "<init>", "()V"⟩
abbrev cX0_clear : ByteArray := prog_2_method_2_code
def yX0_clear : MethodName := ⟨RX0, "clear", "()V"⟩
abbrev cX0_wanted : ByteArray := prog_2_method_3_code
def yX0_wanted : MethodName := ⟨RX0, "wanted", "(II)I"⟩
abbrev cX0_walk : ByteArray := prog_2_method_4_code
def yX0_walk : MethodName := ⟨RX0, "walk", "(III)I"⟩
abbrev cX0_mostMeals : ByteArray := prog_2_method_5_code
def yX0_mostMeals : MethodName := ⟨RX0, "mostMeals", "(II)I"⟩
abbrev cX0_mealNamed : ByteArray := prog_2_method_6_code
def yX0_mealNamed : MethodName := ⟨RX0, "mealNamed", "(J)I"⟩
def RX1 : String := "TrolleyPlanner$History"
def TX1 : u_T := fun k => match k with
  | 0 => ("TrolleyPlanner$History", "before", "[LTrolleyPlanner$State;", true)
  | _ => ("TrolleyPlanner$History", "count", "I", false)
def tyX1 : Nat → FieldType := fun k => match k with
  | 0 => .array (.object "TrolleyPlanner$State")
  | _ => .int
theorem nmX1 : ∀ a, a < 2 → ∀ b, b < 2 → a ≠ b → (TX1 a).2.1 ≠ (TX1 b).2.1 := by decide +kernel
theorem tyX1_ok : ∀ k, k < 2 → parseFieldDescriptor (TX1 k).2.2.1 = some (tyX1 k) := by decide +kernel
abbrev cX1_init : ByteArray := prog_3_method_1_code
def yX1_init : MethodName := ⟨RX1, "<init>", "()V"⟩
abbrev cX1_push : ByteArray := prog_3_method_2_code
def yX1_push : MethodName := ⟨RX1, "push", "(LTrolleyPlanner$State;)V"⟩
abbrev cX1_popInto : ByteArray := prog_3_method_3_code
def yX1_popInto : MethodName := ⟨RX1, "popInto", "(LTrolleyPlanner$State;)V"⟩
abbrev cX1_dropFirst : ByteArray := prog_3_method_4_code
def yX1_dropFirst : MethodName := ⟨RX1, "dropFirst", "()V"⟩
def RX2 : String := "TrolleyPlanner$Parser"
def TX2 : u_T := fun k => match k with
  | 0 => ("TrolleyPlanner$Parser", "bytes", "[B", true)
  | 1 => ("TrolleyPlanner$Parser", "stocked", "[Z", true)
  | 2 => ("TrolleyPlanner$Parser", "length", "I", false)
  | 3 => ("TrolleyPlanner$Parser", "code", "I", false)
  | 4 => ("TrolleyPlanner$Parser", "position", "I", false)
  | 5 => ("TrolleyPlanner$Parser", "facts", "LTrolleyPlanner$Facts;", false)
  | 6 => ("TrolleyPlanner$Parser", "state", "LTrolleyPlanner$State;", false)
  | 7 => ("TrolleyPlanner$Parser", "textEnd", "I", false)
  | 8 => ("TrolleyPlanner$Parser", "next", "I", false)
  | 9 => ("TrolleyPlanner$Parser", "tokenStart", "I", false)
  | 10 => ("TrolleyPlanner$Parser", "kind", "I", false)
  | 11 => ("TrolleyPlanner$Parser", "number", "I", false)
  | _ => ("TrolleyPlanner$Parser", "word", "J", false)
def tyX2 : Nat → FieldType := fun k => match k with
  | 0 => .array .byte
  | 1 => .array .boolean
  | 2 => .int
  | 3 => .int
  | 4 => .int
  | 5 => .object "TrolleyPlanner$Facts"
  | 6 => .object "TrolleyPlanner$State"
  | 7 => .int
  | 8 => .int
  | 9 => .int
  | 10 => .int
  | 11 => .int
  | _ => .long
theorem nmX2 : ∀ a, a < 13 → ∀ b, b < 13 → a ≠ b → (TX2 a).2.1 ≠ (TX2 b).2.1 := by decide +kernel
theorem tyX2_ok : ∀ k, k < 13 → parseFieldDescriptor (TX2 k).2.2.1 = some (tyX2 k) := by decide +kernel
abbrev cX2_init : ByteArray := prog_4_method_1_code
def yX2_init : MethodName := ⟨RX2, "<init>", "()V"⟩
abbrev cX2_putFour : ByteArray := prog_4_method_2_code
def yX2_putFour : MethodName := ⟨RX2, "putFour", "(I)V"⟩
abbrev cX2_parse : ByteArray := prog_4_method_3_code
def yX2_parse : MethodName := ⟨RX2, "parse", "(I)V"⟩
abbrev cX2_refuse : ByteArray := prog_4_method_4_code
def yX2_refuse : MethodName := ⟨RX2, "refuse", "(I)V"⟩
abbrev cX2_isComplete : ByteArray := prog_4_method_5_code
def yX2_isComplete : MethodName := ⟨RX2, "isComplete", "()Z"⟩
abbrev cX2_readLine : ByteArray := prog_4_method_6_code
def yX2_readLine : MethodName := ⟨RX2, "readLine", "()V"⟩
abbrev cX2_readTrain : ByteArray := prog_4_method_7_code
def yX2_readTrain : MethodName := ⟨RX2, "readTrain", "()V"⟩
abbrev cX2_readCar : ByteArray := prog_4_method_8_code
def yX2_readCar : MethodName := ⟨RX2, "readCar", "()V"⟩
abbrev cX2_readMeal : ByteArray := prog_4_method_9_code
def yX2_readMeal : MethodName := ⟨RX2, "readMeal", "()V"⟩
abbrev cX2_readKitchen : ByteArray := prog_4_method_10_code
def yX2_readKitchen : MethodName := ⟨RX2, "readKitchen", "()V"⟩
abbrev cX2_readStock : ByteArray := prog_4_method_11_code
def yX2_readStock : MethodName := ⟨RX2, "readStock", "()V"⟩
abbrev cX2_readTrolley : ByteArray := prog_4_method_12_code
def yX2_readTrolley : MethodName := ⟨RX2, "readTrolley", "()V"⟩
abbrev cX2_readJob : ByteArray := prog_4_method_13_code
def yX2_readJob : MethodName := ⟨RX2, "readJob", "()V"⟩
abbrev cX2_takeNumber : ByteArray := prog_4_method_14_code
def yX2_takeNumber : MethodName := ⟨RX2, "takeNumber", "(II)I"⟩
abbrev cX2_refuseUnknownTrain : ByteArray := prog_4_method_15_code
def yX2_refuseUnknownTrain : MethodName := ⟨RX2, "refuseUnknownTrain", "(I)V"⟩
abbrev cX2_takeKeyword : ByteArray := prog_4_method_16_code
def yX2_takeKeyword : MethodName := ⟨RX2, "takeKeyword", "(J)V"⟩
abbrev cX2_takeName : ByteArray := prog_4_method_17_code
def yX2_takeName : MethodName := ⟨RX2, "takeName", "()V"⟩
abbrev cX2_namedMeal : ByteArray := prog_4_method_18_code
def yX2_namedMeal : MethodName := ⟨RX2, "namedMeal", "()I"⟩
abbrev cX2_isKeyword : ByteArray := prog_4_method_19_code
def yX2_isKeyword : MethodName := ⟨RX2, "isKeyword", "()Z"⟩
abbrev cX2_advance : ByteArray := prog_4_method_20_code
def yX2_advance : MethodName := ⟨RX2, "advance", "()V"⟩
abbrev cX2_scanLetters : ByteArray := prog_4_method_21_code
def yX2_scanLetters : MethodName := ⟨RX2, "scanLetters", "()V"⟩
abbrev cX2_scanDigits : ByteArray := prog_4_method_22_code
def yX2_scanDigits : MethodName := ⟨RX2, "scanDigits", "()V"⟩
def RX3 : String := "TrolleyPlanner$Run"
def TX3 : u_T := fun k => match k with
  | 0 => ("TrolleyPlanner$Run", "start", "[I", true)
  | 1 => ("TrolleyPlanner$Run", "taken", "[I", true)
  | 2 => ("TrolleyPlanner$Run", "loadEnd", "[I", true)
  | 3 => ("TrolleyPlanner$Run", "reach", "[I", true)
  | 4 => ("TrolleyPlanner$Run", "begin", "[I", true)
  | 5 => ("TrolleyPlanner$Run", "end", "[I", true)
  | 6 => ("TrolleyPlanner$Run", "handed", "[I", true)
  | 7 => ("TrolleyPlanner$Run", "finish", "[I", true)
  | 8 => ("TrolleyPlanner$Run", "stock", "[I", true)
  | 9 => ("TrolleyPlanner$Run", "total", "I", false)
  | 10 => ("TrolleyPlanner$Run", "event", "[I", true)
  | 11 => ("TrolleyPlanner$Run", "time", "[I", true)
  | 12 => ("TrolleyPlanner$Run", "job", "[I", true)
  | _ => ("TrolleyPlanner$Run", "doorFree", "[I", true)
def tyX3 : Nat → FieldType := fun k => match k with
  | 0 => .array .int
  | 1 => .array .int
  | 2 => .array .int
  | 3 => .array .int
  | 4 => .array .int
  | 5 => .array .int
  | 6 => .array .int
  | 7 => .array .int
  | 8 => .array .int
  | 9 => .int
  | 10 => .array .int
  | 11 => .array .int
  | 12 => .array .int
  | _ => .array .int
theorem nmX3 : ∀ a, a < 14 → ∀ b, b < 14 → a ≠ b → (TX3 a).2.1 ≠ (TX3 b).2.1 := by decide +kernel
theorem tyX3_ok : ∀ k, k < 14 → parseFieldDescriptor (TX3 k).2.2.1 = some (tyX3 k) := by decide +kernel
abbrev cX3_init : ByteArray := prog_5_method_1_code
def yX3_init : MethodName := ⟨RX3, "<init>", "()V"⟩
abbrev cX3_play : ByteArray := prog_5_method_2_code
def yX3_play : MethodName := ⟨RX3, "play", "(LTrolleyPlanner$Facts;LTrolleyPlanner$State;)V"⟩
abbrev cX3_awaitStart : ByteArray := prog_5_method_3_code
def yX3_awaitStart : MethodName := ⟨RX3, "awaitStart", "(LTrolleyPlanner$State;III)V"⟩
abbrev cX3_nextTrolley : ByteArray := prog_5_method_4_code
def yX3_nextTrolley : MethodName := ⟨RX3, "nextTrolley", "(I)I"⟩
abbrev cX3_startJob : ByteArray := prog_5_method_5_code
def yX3_startJob : MethodName := ⟨RX3, "startJob", "(LTrolleyPlanner$Facts;LTrolleyPlanner$State;I)V"⟩
abbrev cX3_setNoUnloading : ByteArray := prog_5_method_6_code
def yX3_setNoUnloading : MethodName := ⟨RX3, "setNoUnloading", "(II)V"⟩
abbrev cX3_reachDoor : ByteArray := prog_5_method_7_code
def yX3_reachDoor : MethodName := ⟨RX3, "reachDoor", "(LTrolleyPlanner$Facts;LTrolleyPlanner$State;I)V"⟩
abbrev cX3_unload : ByteArray := prog_5_method_8_code
def yX3_unload : MethodName := ⟨RX3, "unload", "(LTrolleyPlanner$Facts;LTrolleyPlanner$State;I)V"⟩
abbrev cX3_bringBack : ByteArray := prog_5_method_9_code
def yX3_bringBack : MethodName := ⟨RX3, "bringBack", "(LTrolleyPlanner$Facts;LTrolleyPlanner$State;I)V"⟩
abbrev cX3_leavesBehind : ByteArray := prog_5_method_10_code
def yX3_leavesBehind : MethodName := ⟨RX3, "leavesBehind", "(LTrolleyPlanner$State;I)Z"⟩
def RX4 : String := "TrolleyPlanner$Sharing"
def TX4 : u_T := fun k => match k with
  | 0 => ("TrolleyPlanner$Sharing", "claim", "[I", true)
  | 1 => ("TrolleyPlanner$Sharing", "rest", "[I", true)
  | 2 => ("TrolleyPlanner$Sharing", "part", "[I", true)
  | 3 => ("TrolleyPlanner$Sharing", "count", "I", false)
  | _ => ("TrolleyPlanner$Sharing", "sum", "I", false)
def tyX4 : Nat → FieldType := fun k => match k with
  | 0 => .array .int
  | 1 => .array .int
  | 2 => .array .int
  | 3 => .int
  | _ => .int
theorem nmX4 : ∀ a, a < 5 → ∀ b, b < 5 → a ≠ b → (TX4 a).2.1 ≠ (TX4 b).2.1 := by decide +kernel
theorem tyX4_ok : ∀ k, k < 5 → parseFieldDescriptor (TX4 k).2.2.1 = some (tyX4 k) := by decide +kernel
abbrev cX4_init : ByteArray := prog_6_method_1_code
def yX4_init : MethodName := ⟨RX4, "<init>", "()V"⟩
abbrev cX4_clear : ByteArray := prog_6_method_2_code
def yX4_clear : MethodName := ⟨RX4, "clear", "()V"⟩
abbrev cX4_addClaim : ByteArray := prog_6_method_3_code
def yX4_addClaim : MethodName := ⟨RX4, "addClaim", "(I)V"⟩
abbrev cX4_shareOut : ByteArray := prog_6_method_4_code
def yX4_shareOut : MethodName := ⟨RX4, "shareOut", "(I)V"⟩
abbrev cX4_largestRest : ByteArray := prog_6_method_5_code
def yX4_largestRest : MethodName := ⟨RX4, "largestRest", "()I"⟩
def RX5 : String := "TrolleyPlanner$Solo"
def TX5 : u_T := fun k => match k with
  | 0 => ("TrolleyPlanner$Solo", "job", "[I", true)
  | 1 => ("TrolleyPlanner$Solo", "order", "[I", true)
  | 2 => ("TrolleyPlanner$Solo", "count", "I", false)
  | 3 => ("TrolleyPlanner$Solo", "set", "I", false)
  | 4 => ("TrolleyPlanner$Solo", "orderLength", "I", false)
  | 5 => ("TrolleyPlanner$Solo", "meals", "[I", true)
  | 6 => ("TrolleyPlanner$Solo", "toDoor", "[I", true)
  | 7 => ("TrolleyPlanner$Solo", "unloading", "[I", true)
  | 8 => ("TrolleyPlanner$Solo", "walkBack", "[I", true)
  | 9 => ("TrolleyPlanner$Solo", "arrival", "[I", true)
  | 10 => ("TrolleyPlanner$Solo", "departure", "[I", true)
  | _ => ("TrolleyPlanner$Solo", "latest", "[I", true)
def tyX5 : Nat → FieldType := fun k => match k with
  | 0 => .array .int
  | 1 => .array .int
  | 2 => .int
  | 3 => .int
  | 4 => .int
  | 5 => .array .int
  | 6 => .array .int
  | 7 => .array .int
  | 8 => .array .int
  | 9 => .array .int
  | 10 => .array .int
  | _ => .array .int
theorem nmX5 : ∀ a, a < 12 → ∀ b, b < 12 → a ≠ b → (TX5 a).2.1 ≠ (TX5 b).2.1 := by decide +kernel
theorem tyX5_ok : ∀ k, k < 12 → parseFieldDescriptor (TX5 k).2.2.1 = some (tyX5 k) := by decide +kernel
abbrev cX5_init : ByteArray := prog_7_method_1_code
def yX5_init : MethodName := ⟨RX5, "<init>", "()V"⟩
abbrev cX5_study : ByteArray := prog_7_method_2_code
def yX5_study : MethodName := ⟨RX5, "study", "(LTrolleyPlanner$Facts;LTrolleyPlanner$State;II)V"⟩
abbrev cX5_studyJob : ByteArray := prog_7_method_3_code
def yX5_studyJob : MethodName := ⟨RX5, "studyJob", "(LTrolleyPlanner$Facts;LTrolleyPlanner$State;II)V"⟩
abbrev cX5_wholeSet : ByteArray := prog_7_method_4_code
def yX5_wholeSet : MethodName := ⟨RX5, "wholeSet", "()I"⟩
abbrev cX5_canDo : ByteArray := prog_7_method_5_code
def yX5_canDo : MethodName := ⟨RX5, "canDo", "(I)Z"⟩
abbrev cX5_mealsOf : ByteArray := prog_7_method_6_code
def yX5_mealsOf : MethodName := ⟨RX5, "mealsOf", "(I)I"⟩
abbrev cX5_latestBegin : ByteArray := prog_7_method_7_code
def yX5_latestBegin : MethodName := ⟨RX5, "latestBegin", "(I)I"⟩
abbrev cX5_latestBeginWith : ByteArray := prog_7_method_8_code
def yX5_latestBeginWith : MethodName := ⟨RX5, "latestBeginWith", "(II)I"⟩
abbrev cX5_chooseBest : ByteArray := prog_7_method_9_code
def yX5_chooseBest : MethodName := ⟨RX5, "chooseBest", "(LTrolleyPlanner$Facts;LTrolleyPlanner$State;I)V"⟩
abbrev cX5_layOrder : ByteArray := prog_7_method_10_code
def yX5_layOrder : MethodName := ⟨RX5, "layOrder", "()V"⟩
abbrev cX5_firstThatFits : ByteArray := prog_7_method_11_code
def yX5_firstThatFits : MethodName := ⟨RX5, "firstThatFits", "(II)I"⟩
def RX6 : String := "TrolleyPlanner$State"
def TX6 : u_T := fun k => match k with
  | 0 => ("TrolleyPlanner$State", "trolley", "[I", true)
  | 1 => ("TrolleyPlanner$State", "door", "[I", true)
  | 2 => ("TrolleyPlanner$State", "meal", "[I", true)
  | 3 => ("TrolleyPlanner$State", "quantity", "[I", true)
  | 4 => ("TrolleyPlanner$State", "departure", "[I", true)
  | 5 => ("TrolleyPlanner$State", "stock", "[I", true)
  | _ => ("TrolleyPlanner$State", "jobCount", "I", false)
def tyX6 : Nat → FieldType := fun k => match k with
  | 0 => .array .int
  | 1 => .array .int
  | 2 => .array .int
  | 3 => .array .int
  | 4 => .array .int
  | 5 => .array .int
  | _ => .int
theorem nmX6 : ∀ a, a < 7 → ∀ b, b < 7 → a ≠ b → (TX6 a).2.1 ≠ (TX6 b).2.1 := by decide +kernel
theorem tyX6_ok : ∀ k, k < 7 → parseFieldDescriptor (TX6 k).2.2.1 = some (tyX6 k) := by decide +kernel
abbrev cX6_init : ByteArray := prog_8_method_1_code
def yX6_init : MethodName := ⟨RX6, "<init>", "()V"⟩
abbrev cX6_clear : ByteArray := prog_8_method_2_code
def yX6_clear : MethodName := ⟨RX6, "clear", "()V"⟩
abbrev cX6_copyFrom : ByteArray := prog_8_method_3_code
def yX6_copyFrom : MethodName := ⟨RX6, "copyFrom", "(LTrolleyPlanner$State;)V"⟩
abbrev cX6_addLast : ByteArray := prog_8_method_4_code
def yX6_addLast : MethodName := ⟨RX6, "addLast", "(IIII)V"⟩
abbrev cX6_takeJob : ByteArray := prog_8_method_5_code
def yX6_takeJob : MethodName := ⟨RX6, "takeJob", "(LTrolleyPlanner$State;II)V"⟩
abbrev cX6_removeAt : ByteArray := prog_8_method_6_code
def yX6_removeAt : MethodName := ⟨RX6, "removeAt", "(I)V"⟩
abbrev cX6_exchange : ByteArray := prog_8_method_7_code
def yX6_exchange : MethodName := ⟨RX6, "exchange", "(II)V"⟩
abbrev cX6_exchangeIn : ByteArray := prog_8_method_8_code
def yX6_exchangeIn : MethodName := ⟨RX6, "exchangeIn", "([III)V"⟩
abbrev cX6_jobsOf : ByteArray := prog_8_method_9_code
def yX6_jobsOf : MethodName := ⟨RX6, "jobsOf", "(I)I"⟩
abbrev cX6_jobFrom : ByteArray := prog_8_method_10_code
def yX6_jobFrom : MethodName := ⟨RX6, "jobFrom", "(II)I"⟩
def RX7 : String := "TrolleyPlanner"
def TX7 : u_T := fun k => match k with
  | 0 => ("TrolleyPlanner", "parser", "LTrolleyPlanner$Parser;", true)
  | 1 => ("TrolleyPlanner", "run", "LTrolleyPlanner$Run;", true)
  | 2 => ("TrolleyPlanner", "rehearsal", "LTrolleyPlanner$Run;", true)
  | 3 => ("TrolleyPlanner", "trial", "LTrolleyPlanner$State;", true)
  | 4 => ("TrolleyPlanner", "saved", "LTrolleyPlanner$State;", true)
  | 5 => ("TrolleyPlanner", "history", "LTrolleyPlanner$History;", true)
  | 6 => ("TrolleyPlanner", "solo", "LTrolleyPlanner$Solo;", true)
  | 7 => ("TrolleyPlanner", "sharing", "LTrolleyPlanner$Sharing;", true)
  | 8 => ("TrolleyPlanner", "facts", "LTrolleyPlanner$Facts;", false)
  | 9 => ("TrolleyPlanner", "state", "LTrolleyPlanner$State;", false)
  | 10 => ("TrolleyPlanner", "planned", "Z", false)
  | 11 => ("TrolleyPlanner", "anythingSaved", "Z", false)
  | _ => ("TrolleyPlanner", "lastError", "I", false)
def tyX7 : Nat → FieldType := fun k => match k with
  | 0 => .object "TrolleyPlanner$Parser"
  | 1 => .object "TrolleyPlanner$Run"
  | 2 => .object "TrolleyPlanner$Run"
  | 3 => .object "TrolleyPlanner$State"
  | 4 => .object "TrolleyPlanner$State"
  | 5 => .object "TrolleyPlanner$History"
  | 6 => .object "TrolleyPlanner$Solo"
  | 7 => .object "TrolleyPlanner$Sharing"
  | 8 => .object "TrolleyPlanner$Facts"
  | 9 => .object "TrolleyPlanner$State"
  | 10 => .boolean
  | 11 => .boolean
  | _ => .int
theorem nmX7 : ∀ a, a < 13 → ∀ b, b < 13 → a ≠ b → (TX7 a).2.1 ≠ (TX7 b).2.1 := by decide +kernel
theorem tyX7_ok : ∀ k, k < 13 → parseFieldDescriptor (TX7 k).2.2.1 = some (tyX7 k) := by decide +kernel
abbrev cX7_init : ByteArray := prog_1_method_1_code
def yX7_init : MethodName := ⟨RX7, "<init>", "()V"⟩
abbrev cX7_append : ByteArray := prog_1_method_2_code
def yX7_append : MethodName := ⟨RX7, "append", "(IIIII)I"⟩
abbrev cX7_load : ByteArray := prog_1_method_3_code
def yX7_load : MethodName := ⟨RX7, "load", "(I)I"⟩
abbrev cX7_jobCount : ByteArray := prog_1_method_10_code
def yX7_jobCount : MethodName := ⟨RX7, "jobCount", "()I"⟩
abbrev cX7_departure : ByteArray := prog_1_method_11_code
def yX7_departure : MethodName := ⟨RX7, "departure", "(I)I"⟩
abbrev cX7_stock : ByteArray := prog_1_method_12_code
def yX7_stock : MethodName := ⟨RX7, "stock", "(II)I"⟩
abbrev cX7_demand : ByteArray := prog_1_method_13_code
def yX7_demand : MethodName := ⟨RX7, "demand", "(III)I"⟩
abbrev cX7_jobTrolley : ByteArray := prog_1_method_14_code
def yX7_jobTrolley : MethodName := ⟨RX7, "jobTrolley", "(I)I"⟩
abbrev cX7_jobQuantity : ByteArray := prog_1_method_15_code
def yX7_jobQuantity : MethodName := ⟨RX7, "jobQuantity", "(I)I"⟩
abbrev cX7_startTime : ByteArray := prog_1_method_16_code
def yX7_startTime : MethodName := ⟨RX7, "startTime", "(I)I"⟩
abbrev cX7_loaded : ByteArray := prog_1_method_17_code
def yX7_loaded : MethodName := ⟨RX7, "loaded", "(I)I"⟩
abbrev cX7_unloaded : ByteArray := prog_1_method_18_code
def yX7_unloaded : MethodName := ⟨RX7, "unloaded", "(I)I"⟩
abbrev cX7_unloadTime : ByteArray := prog_1_method_19_code
def yX7_unloadTime : MethodName := ⟨RX7, "unloadTime", "(I)I"⟩
abbrev cX7_finishTime : ByteArray := prog_1_method_20_code
def yX7_finishTime : MethodName := ⟨RX7, "finishTime", "(I)I"⟩
abbrev cX7_delivered : ByteArray := prog_1_method_21_code
def yX7_delivered : MethodName := ⟨RX7, "delivered", "(III)I"⟩
abbrev cX7_deliveredTotal : ByteArray := prog_1_method_22_code
def yX7_deliveredTotal : MethodName := ⟨RX7, "deliveredTotal", "()I"⟩
abbrev cX7_leftBehind : ByteArray := prog_1_method_23_code
def yX7_leftBehind : MethodName := ⟨RX7, "leftBehind", "(I)I"⟩
abbrev cX7_finalStock : ByteArray := prog_1_method_24_code
def yX7_finalStock : MethodName := ⟨RX7, "finalStock", "(II)I"⟩
abbrev cX7_shortage : ByteArray := prog_1_method_25_code
def yX7_shortage : MethodName := ⟨RX7, "shortage", "(III)I"⟩
abbrev cX7_share : ByteArray := prog_1_method_30_code
def yX7_share : MethodName := ⟨RX7, "share", "(III)I"⟩
abbrev cX7_coverage : ByteArray := prog_1_method_33_code
def yX7_coverage : MethodName := ⟨RX7, "coverage", "(IIZ)J"⟩
abbrev cX7_leastCoverage : ByteArray := prog_1_method_34_code
def yX7_leastCoverage : MethodName := ⟨RX7, "leastCoverage", "(IZ)J"⟩
abbrev cX7_bestSet : ByteArray := prog_1_method_36_code
def yX7_bestSet : MethodName := ⟨RX7, "bestSet", "(I)I"⟩
abbrev cX7_bestMeals : ByteArray := prog_1_method_37_code
def yX7_bestMeals : MethodName := ⟨RX7, "bestMeals", "(I)I"⟩
abbrev cX7_bestOrder : ByteArray := prog_1_method_38_code
def yX7_bestOrder : MethodName := ⟨RX7, "bestOrder", "(II)I"⟩
abbrev cX7_neededDelay : ByteArray := prog_1_method_40_code
def yX7_neededDelay : MethodName := ⟨RX7, "neededDelay", "(I)I"⟩
abbrev cX7_deliveredWithout : ByteArray := prog_1_method_41_code
def yX7_deliveredWithout : MethodName := ⟨RX7, "deliveredWithout", "(I)I"⟩
abbrev cX7_worstJob : ByteArray := prog_1_method_42_code
def yX7_worstJob : MethodName := ⟨RX7, "worstJob", "()I"⟩
abbrev cX7_addJob : ByteArray := prog_1_method_45_code
def yX7_addJob : MethodName := ⟨RX7, "addJob", "(IIIII)I"⟩
abbrev cX7_removeJob : ByteArray := prog_1_method_46_code
def yX7_removeJob : MethodName := ⟨RX7, "removeJob", "(I)I"⟩
abbrev cX7_moveJob : ByteArray := prog_1_method_47_code
def yX7_moveJob : MethodName := ⟨RX7, "moveJob", "(II)I"⟩
abbrev cX7_setDeparture : ByteArray := prog_1_method_48_code
def yX7_setDeparture : MethodName := ⟨RX7, "setDeparture", "(II)I"⟩
abbrev cX7_setStock : ByteArray := prog_1_method_49_code
def yX7_setStock : MethodName := ⟨RX7, "setStock", "(III)I"⟩
abbrev cX7_applyBest : ByteArray := prog_1_method_51_code
def yX7_applyBest : MethodName := ⟨RX7, "applyBest", "(I)I"⟩
abbrev cX7_undo : ByteArray := prog_1_method_52_code
def yX7_undo : MethodName := ⟨RX7, "undo", "()I"⟩
abbrev cX7_save : ByteArray := prog_1_method_53_code
def yX7_save : MethodName := ⟨RX7, "save", "()I"⟩
abbrev cX7_restore : ByteArray := prog_1_method_54_code
def yX7_restore : MethodName := ⟨RX7, "restore", "()I"⟩
abbrev cX7_error : ByteArray := prog_1_method_56_code
def yX7_error : MethodName := ⟨RX7, "error", "()I"⟩
abbrev cX7_answer : ByteArray := prog_1_method_57_code
def yX7_answer : MethodName := ⟨RX7, "answer", "(I)I"⟩
abbrev cX7_answerLong : ByteArray := prog_1_method_58_code
def yX7_answerLong : MethodName := ⟨RX7, "answerLong", "(J)J"⟩
abbrev cX7_fail : ByteArray := prog_1_method_59_code
def yX7_fail : MethodName := ⟨RX7, "fail", "(I)I"⟩
abbrev cX7_failLong : ByteArray := prog_1_method_60_code
def yX7_failLong : MethodName := ⟨RX7, "failLong", "(I)J"⟩
abbrev cX7_changed : ByteArray := prog_1_method_61_code
def yX7_changed : MethodName := ⟨RX7, "changed", "(I)I"⟩
abbrev cX7_rehearse : ByteArray := prog_1_method_62_code
def yX7_rehearse : MethodName := ⟨RX7, "rehearse", "()I"⟩
abbrev cX7_takeParsedPlan : ByteArray := prog_1_method_63_code
def yX7_takeParsedPlan : MethodName := ⟨RX7, "takeParsedPlan", "()V"⟩
abbrev cX7_isTrain : ByteArray := prog_1_method_64_code
def yX7_isTrain : MethodName := ⟨RX7, "isTrain", "(I)Z"⟩
abbrev cX7_isCar : ByteArray := prog_1_method_65_code
def yX7_isCar : MethodName := ⟨RX7, "isCar", "(II)Z"⟩
abbrev cX7_isMeal : ByteArray := prog_1_method_66_code
def yX7_isMeal : MethodName := ⟨RX7, "isMeal", "(I)Z"⟩
abbrev cX7_isCarMeal : ByteArray := prog_1_method_67_code
def yX7_isCarMeal : MethodName := ⟨RX7, "isCarMeal", "(III)Z"⟩
abbrev cX7_isStock : ByteArray := prog_1_method_68_code
def yX7_isStock : MethodName := ⟨RX7, "isStock", "(II)Z"⟩
abbrev cX7_isTrolley : ByteArray := prog_1_method_69_code
def yX7_isTrolley : MethodName := ⟨RX7, "isTrolley", "(I)Z"⟩
abbrev cX7_isJob : ByteArray := prog_1_method_70_code
def yX7_isJob : MethodName := ⟨RX7, "isJob", "(I)Z"⟩
abbrev cX7_isJobQuantity : ByteArray := prog_1_method_71_code
def yX7_isJobQuantity : MethodName := ⟨RX7, "isJobQuantity", "(I)Z"⟩
abbrev cX7_doorIndex : ByteArray := prog_1_method_72_code
def yX7_doorIndex : MethodName := ⟨RX7, "doorIndex", "(II)I"⟩
abbrev cX7_stockIndex : ByteArray := prog_1_method_73_code
def yX7_stockIndex : MethodName := ⟨RX7, "stockIndex", "(II)I"⟩
abbrev cX7_handedAt : ByteArray := prog_1_method_74_code
def yX7_handedAt : MethodName := ⟨RX7, "handedAt", "(II)I"⟩
abbrev cX7_handedToTrain : ByteArray := prog_1_method_75_code
def yX7_handedToTrain : MethodName := ⟨RX7, "handedToTrain", "(II)I"⟩
abbrev cX7_wantedByTrain : ByteArray := prog_1_method_76_code
def yX7_wantedByTrain : MethodName := ⟨RX7, "wantedByTrain", "(II)I"⟩
abbrev cX7_addClaims : ByteArray := prog_1_method_77_code
def yX7_addClaims : MethodName := ⟨RX7, "addClaims", "(II)V"⟩
abbrev cX7_shareInTrain : ByteArray := prog_1_method_78_code
def yX7_shareInTrain : MethodName := ⟨RX7, "shareInTrain", "(II)V"⟩
abbrev cX7_coverageAbove : ByteArray := prog_1_method_79_code
def yX7_coverageAbove : MethodName := ⟨RX7, "coverageAbove", "(II)I"⟩
abbrev cX7_coverageBelow : ByteArray := prog_1_method_80_code
def yX7_coverageBelow : MethodName := ⟨RX7, "coverageBelow", "(II)I"⟩
abbrev cX7_lowestTerm : ByteArray := prog_1_method_81_code
def yX7_lowestTerm : MethodName := ⟨RX7, "lowestTerm", "(IIZ)I"⟩
abbrev cX7_compareCoverage : ByteArray := prog_1_method_82_code
def yX7_compareCoverage : MethodName := ⟨RX7, "compareCoverage", "(IIII)I"⟩
abbrev cX7_commonDivisor : ByteArray := prog_1_method_83_code
def yX7_commonDivisor : MethodName := ⟨RX7, "commonDivisor", "(II)I"⟩
abbrev cX7_wholeParts : ByteArray := prog_1_method_84_code
def yX7_wholeParts : MethodName := ⟨RX7, "wholeParts", "(II)I"⟩
abbrev cX7_partsRoundedUp : ByteArray := prog_1_method_85_code
def yX7_partsRoundedUp : MethodName := ⟨RX7, "partsRoundedUp", "(II)I"⟩
def RX8 : String := "TrolleyPlannerModel"
def TX8 : u_T := fun k => match k with
  | _ => ("", "", "", false)
def tyX8 : Nat → FieldType := fun k => match k with
  | _ => .int
theorem nmX8 : ∀ a, a < 0 → ∀ b, b < 0 → a ≠ b → (TX8 a).2.1 ≠ (TX8 b).2.1 := by decide +kernel
theorem tyX8_ok : ∀ k, k < 0 → parseFieldDescriptor (TX8 k).2.2.1 = some (tyX8 k) := by decide +kernel
def RJx145de : String := "java/io/Serializable"
def TJx145de : u_T := fun k => match k with
  | _ => ("", "", "", false)
def tyJx145de : Nat → FieldType := fun k => match k with
  | _ => .int
theorem nmJx145de : ∀ a, a < 0 → ∀ b, b < 0 → a ≠ b → (TJx145de a).2.1 ≠ (TJx145de b).2.1 := by decide +kernel
theorem tyJx145de_ok : ∀ k, k < 0 → parseFieldDescriptor (TJx145de k).2.2.1 = some (tyJx145de k) := by decide +kernel
def RJxb160c : String := "java/lang/Comparable"
def TJxb160c : u_T := fun k => match k with
  | _ => ("", "", "", false)
def tyJxb160c : Nat → FieldType := fun k => match k with
  | _ => .int
theorem nmJxb160c : ∀ a, a < 0 → ∀ b, b < 0 → a ≠ b → (TJxb160c a).2.1 ≠ (TJxb160c b).2.1 := by decide +kernel
theorem tyJxb160c_ok : ∀ k, k < 0 → parseFieldDescriptor (TJxb160c k).2.2.1 = some (tyJxb160c k) := by decide +kernel
def RJ6 : String := "java/lang/Integer"
def TJ6 : u_T := fun k => match k with
  | _ => ("", "", "", false)
def tyJ6 : Nat → FieldType := fun k => match k with
  | _ => .int
theorem nmJ6 : ∀ a, a < 0 → ∀ b, b < 0 → a ≠ b → (TJ6 a).2.1 ≠ (TJ6 b).2.1 := by decide +kernel
theorem tyJ6_ok : ∀ k, k < 0 → parseFieldDescriptor (TJ6 k).2.2.1 = some (tyJ6 k) := by decide +kernel
abbrev cJ6_compare_7cf53 : ByteArray := prog_11_method_40_code
def yJ6_compare_7cf53 : MethodName := ⟨RJ6, "compare", "(II)I"⟩
abbrev cJ6_numberOfLeadingZeros_0f7a4 : ByteArray := prog_11_method_47_code
def yJ6_numberOfLeadingZeros_0f7a4 : MethodName := ⟨RJ6, "numberOfLeadingZeros", "(I)I"⟩
abbrev cJ6_numberOfTrailingZeros_0f7a4 : ByteArray := prog_11_method_48_code
def yJ6_numberOfTrailingZeros_0f7a4 : MethodName := ⟨RJ6, "numberOfTrailingZeros", "(I)I"⟩
abbrev cJ6_bitCount_0f7a4 : ByteArray := prog_11_method_49_code
def yJ6_bitCount_0f7a4 : MethodName := ⟨RJ6, "bitCount", "(I)I"⟩
def RJ13 : String := "java/lang/Long"
def TJ13 : u_T := fun k => match k with
  | _ => ("", "", "", false)
def tyJ13 : Nat → FieldType := fun k => match k with
  | _ => .int
theorem nmJ13 : ∀ a, a < 0 → ∀ b, b < 0 → a ≠ b → (TJ13 a).2.1 ≠ (TJ13 b).2.1 := by decide +kernel
theorem tyJ13_ok : ∀ k, k < 0 → parseFieldDescriptor (TJ13 k).2.2.1 = some (tyJ13 k) := by decide +kernel
abbrev cJ13_numberOfLeadingZeros_95d88 : ByteArray := prog_12_method_48_code
def yJ13_numberOfLeadingZeros_95d88 : MethodName := ⟨RJ13, "numberOfLeadingZeros", "(J)I"⟩
abbrev cJ13_numberOfTrailingZeros_95d88 : ByteArray := prog_12_method_49_code
def yJ13_numberOfTrailingZeros_95d88 : MethodName := ⟨RJ13, "numberOfTrailingZeros", "(J)I"⟩
def RJ9 : String := "java/lang/Math"
def TJ9 : u_T := fun k => match k with
  | _ => ("", "", "", false)
def tyJ9 : Nat → FieldType := fun k => match k with
  | _ => .int
theorem nmJ9 : ∀ a, a < 0 → ∀ b, b < 0 → a ≠ b → (TJ9 a).2.1 ≠ (TJ9 b).2.1 := by decide +kernel
theorem tyJ9_ok : ∀ k, k < 0 → parseFieldDescriptor (TJ9 k).2.2.1 = some (tyJ9 k) := by decide +kernel
abbrev cJ9_abs_0f7a4 : ByteArray := prog_13_method_59_code
def yJ9_abs_0f7a4 : MethodName := ⟨RJ9, "abs", "(I)I"⟩
abbrev cJ9_max_7cf53 : ByteArray := prog_13_method_65_code
def yJ9_max_7cf53 : MethodName := ⟨RJ9, "max", "(II)I"⟩
abbrev cJ9_min_7cf53 : ByteArray := prog_13_method_69_code
def yJ9_min_7cf53 : MethodName := ⟨RJ9, "min", "(II)I"⟩
def RJxd2413 : String := "java/lang/Number"
def TJxd2413 : u_T := fun k => match k with
  | _ => ("", "", "", false)
def tyJxd2413 : Nat → FieldType := fun k => match k with
  | _ => .int
theorem nmJxd2413 : ∀ a, a < 0 → ∀ b, b < 0 → a ≠ b → (TJxd2413 a).2.1 ≠ (TJxd2413 b).2.1 := by decide +kernel
theorem tyJxd2413_ok : ∀ k, k < 0 → parseFieldDescriptor (TJxd2413 k).2.2.1 = some (tyJxd2413 k) := by decide +kernel
def RJ10 : String := "java/lang/System"
def TJ10 : u_T := fun k => match k with
  | _ => ("", "", "", false)
def tyJ10 : Nat → FieldType := fun k => match k with
  | _ => .int
theorem nmJ10 : ∀ a, a < 0 → ∀ b, b < 0 → a ≠ b → (TJ10 a).2.1 ≠ (TJ10 b).2.1 := by decide +kernel
theorem tyJ10_ok : ∀ k, k < 0 → parseFieldDescriptor (TJ10 k).2.2.1 = some (tyJ10 k) := by decide +kernel
def RJxfd54e : String := "java/lang/constant/Constable"
def TJxfd54e : u_T := fun k => match k with
  | _ => ("", "", "", false)
def tyJxfd54e : Nat → FieldType := fun k => match k with
  | _ => .int
theorem nmJxfd54e : ∀ a, a < 0 → ∀ b, b < 0 → a ≠ b → (TJxfd54e a).2.1 ≠ (TJxfd54e b).2.1 := by decide +kernel
theorem tyJxfd54e_ok : ∀ k, k < 0 → parseFieldDescriptor (TJxfd54e k).2.2.1 = some (tyJxfd54e k) := by decide +kernel
def RJx3cf43 : String := "java/lang/constant/ConstantDesc"
def TJx3cf43 : u_T := fun k => match k with
  | _ => ("", "", "", false)
def tyJx3cf43 : Nat → FieldType := fun k => match k with
  | _ => .int
theorem nmJx3cf43 : ∀ a, a < 0 → ∀ b, b < 0 → a ≠ b → (TJx3cf43 a).2.1 ≠ (TJx3cf43 b).2.1 := by decide +kernel
theorem tyJx3cf43_ok : ∀ k, k < 0 → parseFieldDescriptor (TJx3cf43 k).2.2.1 = some (tyJx3cf43 k) := by decide +kernel
def RJ7 : String := "java/util/Arrays"
def TJ7 : u_T := fun k => match k with
  | _ => ("", "", "", false)
def tyJ7 : Nat → FieldType := fun k => match k with
  | _ => .int
theorem nmJ7 : ∀ a, a < 0 → ∀ b, b < 0 → a ≠ b → (TJ7 a).2.1 ≠ (TJ7 b).2.1 := by decide +kernel
theorem tyJ7_ok : ∀ k, k < 0 → parseFieldDescriptor (TJ7 k).2.2.1 = some (tyJ7 k) := by decide +kernel
abbrev cJ7_equals_bbcde : ByteArray := prog_16_method_83_code
def yJ7_equals_bbcde : MethodName := ⟨RJ7, "equals", "([I[I)Z"⟩
abbrev cJ7_fill_53178 : ByteArray := prog_16_method_103_code
def yJ7_fill_53178 : MethodName := ⟨RJ7, "fill", "([II)V"⟩
def RJx9a822 : String := "jdk/internal/misc/Unsafe"
def TJx9a822 : u_T := fun k => match k with
  | _ => ("", "", "", false)
def tyJx9a822 : Nat → FieldType := fun k => match k with
  | _ => .int
theorem nmJx9a822 : ∀ a, a < 0 → ∀ b, b < 0 → a ≠ b → (TJx9a822 a).2.1 ≠ (TJx9a822 b).2.1 := by decide +kernel
theorem tyJx9a822_ok : ∀ k, k < 0 → parseFieldDescriptor (TJx9a822 k).2.2.1 = some (tyJx9a822 k) := by decide +kernel
abbrev cJx9a822_getLongUnaligned_f02c6 : ByteArray := prog_17_method_334_code
def yJx9a822_getLongUnaligned_f02c6 : MethodName := ⟨RJx9a822, "getLongUnaligned", "(Ljava/lang/Object;J)J"⟩
abbrev cJx9a822_getIntUnaligned_25a47 : ByteArray := prog_17_method_336_code
def yJx9a822_getIntUnaligned_25a47 : MethodName := ⟨RJx9a822, "getIntUnaligned", "(Ljava/lang/Object;J)I"⟩
abbrev cJx9a822_pickPos_7cf53 : ByteArray := prog_17_method_350_code
def yJx9a822_pickPos_7cf53 : MethodName := ⟨RJx9a822, "pickPos", "(II)I"⟩
abbrev cJx9a822_makeLong_0477f : ByteArray := prog_17_method_351_code
def yJx9a822_makeLong_0477f : MethodName := ⟨RJx9a822, "makeLong", "(BBBBBBBB)J"⟩
abbrev cJx9a822_makeLong_4b46d : ByteArray := prog_17_method_352_code
def yJx9a822_makeLong_4b46d : MethodName := ⟨RJx9a822, "makeLong", "(SSSS)J"⟩
abbrev cJx9a822_makeLong_a216e : ByteArray := prog_17_method_353_code
def yJx9a822_makeLong_a216e : MethodName := ⟨RJx9a822, "makeLong", "(II)J"⟩
abbrev cJx9a822_makeInt_4e28c : ByteArray := prog_17_method_354_code
def yJx9a822_makeInt_4e28c : MethodName := ⟨RJx9a822, "makeInt", "(SS)I"⟩
abbrev cJx9a822_makeInt_86272 : ByteArray := prog_17_method_355_code
def yJx9a822_makeInt_86272 : MethodName := ⟨RJx9a822, "makeInt", "(BBBB)I"⟩
abbrev cJx9a822_toUnsignedInt_4d018 : ByteArray := prog_17_method_366_code
def yJx9a822_toUnsignedInt_4d018 : MethodName := ⟨RJx9a822, "toUnsignedInt", "(B)I"⟩
abbrev cJx9a822_toUnsignedInt_f1ed4 : ByteArray := prog_17_method_367_code
def yJx9a822_toUnsignedInt_f1ed4 : MethodName := ⟨RJx9a822, "toUnsignedInt", "(S)I"⟩
abbrev cJx9a822_toUnsignedLong_c5be9 : ByteArray := prog_17_method_368_code
def yJx9a822_toUnsignedLong_c5be9 : MethodName := ⟨RJx9a822, "toUnsignedLong", "(B)J"⟩
abbrev cJx9a822_toUnsignedLong_51cfc : ByteArray := prog_17_method_369_code
def yJx9a822_toUnsignedLong_51cfc : MethodName := ⟨RJx9a822, "toUnsignedLong", "(S)J"⟩
abbrev cJx9a822_toUnsignedLong_3e8ac : ByteArray := prog_17_method_370_code
def yJx9a822_toUnsignedLong_3e8ac : MethodName := ⟨RJx9a822, "toUnsignedLong", "(I)J"⟩
def RJxf92f9 : String := "jdk/internal/misc/UnsafeConstants"
def TJxf92f9 : u_T := fun k => match k with
  | _ => ("", "", "", false)
def tyJxf92f9 : Nat → FieldType := fun k => match k with
  | _ => .int
theorem nmJxf92f9 : ∀ a, a < 0 → ∀ b, b < 0 → a ≠ b → (TJxf92f9 a).2.1 ≠ (TJxf92f9 b).2.1 := by decide +kernel
theorem tyJxf92f9_ok : ∀ k, k < 0 → parseFieldDescriptor (TJxf92f9 k).2.2.1 = some (tyJxf92f9 k) := by decide +kernel
def RJ8 : String := "jdk/internal/util/ArraysSupport"
def TJ8 : u_T := fun k => match k with
  | _ => ("", "", "", false)
def tyJ8 : Nat → FieldType := fun k => match k with
  | _ => .int
theorem nmJ8 : ∀ a, a < 0 → ∀ b, b < 0 → a ≠ b → (TJ8 a).2.1 ≠ (TJ8 b).2.1 := by decide +kernel
theorem tyJ8_ok : ∀ k, k < 0 → parseFieldDescriptor (TJ8 k).2.2.1 = some (tyJ8 k) := by decide +kernel
abbrev cJ8_vectorizedMismatch_456ae : ByteArray := prog_19_method_3_code
def yJ8_vectorizedMismatch_456ae : MethodName := ⟨RJ8, "vectorizedMismatch", "(Ljava/lang/Object;JLjava/lang/Object;JII)I"⟩
abbrev cJ8_mismatch_05dfe : ByteArray := prog_19_method_19_code
def yJ8_mismatch_05dfe : MethodName := ⟨RJ8, "mismatch", "([I[II)I"⟩
def RL : String := "TrolleyPlannerLaw"
abbrev cL_put : ByteArray := method_2_code
def yL_put : MethodName := ⟨RL, "put", "(LTrolleyPlanner;[II)V"⟩
abbrev cL_flush : ByteArray := method_3_code
def yL_flush : MethodName := ⟨RL, "flush", "(LTrolleyPlanner;[I)V"⟩
abbrev cL_say : ByteArray := method_4_code
def yL_say : MethodName := ⟨RL, "say", "(LTrolleyPlanner;[IJ)V"⟩
abbrev cL_said : ByteArray := method_5_code
def yL_said : MethodName := ⟨RL, "said", "(LTrolleyPlanner;[I)I"⟩
abbrev cL_number : ByteArray := method_6_code
def yL_number : MethodName := ⟨RL, "number", "(LTrolleyPlanner;[II)V"⟩
abbrev cL_cell : ByteArray := method_7_code
def yL_cell : MethodName := ⟨RL, "cell", "([II)I"⟩
abbrev cL_drawn : ByteArray := method_8_code
def yL_drawn : MethodName := ⟨RL, "drawn", "([I)[I"⟩
abbrev cL_part : ByteArray := method_9_code
def yL_part : MethodName := ⟨RL, "part", "(LTrolleyPlanner;[II)V"⟩
abbrev cL_mealName : ByteArray := method_10_code
def yL_mealName : MethodName := ⟨RL, "mealName", "(LTrolleyPlanner;[II)V"⟩
abbrev cL_says : ByteArray := method_11_code
def yL_says : MethodName := ⟨RL, "says", "(LTrolleyPlanner;[I[I)I"⟩
abbrev cL_law : ByteArray := code
def yL_law : MethodName := ⟨RL, "law", "([I)Z"⟩
abbrev cL_jobsOf : ByteArray := method_25_code
def yL_jobsOf : MethodName := ⟨RL, "jobsOf", "(LTrolleyPlanner;I)I"⟩
abbrev cL_holds : ByteArray := method_26_code
def yL_holds : MethodName := ⟨RL, "holds", "(LTrolleyPlanner;[I)Z"⟩
abbrev cL_mealsHold : ByteArray := method_27_code
def yL_mealsHold : MethodName := ⟨RL, "mealsHold", "(LTrolleyPlanner;)Z"⟩
abbrev cL_jobsHold : ByteArray := method_28_code
def yL_jobsHold : MethodName := ⟨RL, "jobsHold", "(LTrolleyPlanner;)Z"⟩
abbrev cL_sharesHold : ByteArray := method_29_code
def yL_sharesHold : MethodName := ⟨RL, "sharesHold", "(LTrolleyPlanner;)Z"⟩
abbrev cL_bestsHold : ByteArray := method_30_code
def yL_bestsHold : MethodName := ⟨RL, "bestsHold", "(LTrolleyPlanner;[I)Z"⟩
abbrev cL_seen : ByteArray := method_31_code
def yL_seen : MethodName := ⟨RL, "seen", "(LTrolleyPlanner;)[I"⟩
abbrev vwCl : List vw_C := [(RX0, TX0, 18), (RX1, TX1, 2), (RX2, TX2, 13), (RX3, TX3, 14), (RX4, TX4, 5), (RX5, TX5, 12), (RX6, TX6, 7), (RX7, TX7, 13)]
