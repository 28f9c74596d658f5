section
-- ===== PART A: goes FIRST, ahead of the names: the tables' words, and 'selects' of the private methods out of them =====
/-- a private method of a class that the tables say can be made, by its rows of tables_1 -/
def lw_okq (q : MethodName × Nat) : Prop := (q.1.cls ≠ "java/lang/invoke/MethodHandle" ∧ q.1.cls ≠ "java/lang/invoke/VarHandle") ∧ Cond.instantiable q.1.cls q.2 ∈ tables_1 ∧ Cond.privateMethod q.1 ∈ tables_1 ∧ Cond.instanceMethod q.1 ∈ tables_1
def lw_privs : List (MethodName × Nat) := []
def lw_tbl : List Cond := k2_sels lw_privs ++ tables_1
theorem lw_privs_ok : ∀ q ∈ lw_privs, lw_okq q := fun _ h => absurd h List.not_mem_nil
end
section
def RX0 : String := "SureAnswers$Block"
def TX0 : u_T := fun k => match k with
  | 0 => ("SureAnswers$Block", "values", "[I", true)
  | 1 => ("SureAnswers$Block", "layer", "I", false)
  | 2 => ("SureAnswers$Block", "bottom", "I", false)
  | 3 => ("SureAnswers$Block", "top", "I", false)
  | 4 => ("SureAnswers$Block", "rows", "I", false)
  | 5 => ("SureAnswers$Block", "read", "I", false)
  | 6 => ("SureAnswers$Block", "readSum", "I", false)
  | 7 => ("SureAnswers$Block", "readLeast", "I", false)
  | _ => ("SureAnswers$Block", "readGreatest", "I", false)
def tyX0 : Nat → FieldType := fun k => match k with
  | 0 => .array .int
  | 1 => .int
  | 2 => .int
  | 3 => .int
  | 4 => .int
  | 5 => .int
  | 6 => .int
  | 7 => .int
  | _ => .int
abbrev wsX00 : List Cond := u_ws RX0 TX0 9
theorem nmX0 : ∀ a, a < 9 → ∀ b, b < 9 → a ≠ b → (TX0 a).2.1 ≠ (TX0 b).2.1 := by decide +kernel
theorem tyX0_ok : ∀ k, k < 9 → parseFieldDescriptor (TX0 k).2.2.1 = some (tyX0 k) := by decide +kernel
abbrev cX0_init : ByteArray := prog_2_method_1_code
def yX0_init : MethodName := ⟨RX0, "<init>", "()V"⟩
abbrev cX0_copyFrom : ByteArray := prog_2_method_2_code
def yX0_copyFrom : MethodName := ⟨RX0, "copyFrom", "(LSureAnswers$Block;)V"⟩
abbrev cX0_copyFromText : ByteArray := prog_2_method_3_code
def yX0_copyFromText : MethodName := ⟨RX0, "copyFromText", "(LSureAnswers$BlockText;)V"⟩
abbrev cX0_unread : ByteArray := prog_2_method_5_code
def yX0_unread : MethodName := ⟨RX0, "unread", "()I"⟩
abbrev cX0_readRow : ByteArray := prog_2_method_8_code
def yX0_readRow : MethodName := ⟨RX0, "readRow", "()I"⟩
abbrev cX0_readFirst : ByteArray := prog_2_method_9_code
def yX0_readFirst : MethodName := ⟨RX0, "readFirst", "(I)V"⟩
abbrev cX0_readFromLimit : ByteArray := prog_2_method_12_code
def yX0_readFromLimit : MethodName := ⟨RX0, "readFromLimit", "(I)I"⟩
abbrev cX0_share : ByteArray := prog_2_method_13_code
def yX0_share : MethodName := ⟨RX0, "share", "(III)I"⟩
def RX1 : String := "SureAnswers$BlockText"
def TX1 : u_T := fun k => match k with
  | 0 => ("SureAnswers$BlockText", "characters", "[C", true)
  | 1 => ("SureAnswers$BlockText", "values", "[I", true)
  | 2 => ("SureAnswers$BlockText", "length", "I", false)
  | 3 => ("SureAnswers$BlockText", "at", "I", false)
  | 4 => ("SureAnswers$BlockText", "layer", "I", false)
  | 5 => ("SureAnswers$BlockText", "bottom", "I", false)
  | 6 => ("SureAnswers$BlockText", "top", "I", false)
  | _ => ("SureAnswers$BlockText", "rows", "I", false)
def tyX1 : Nat → FieldType := fun k => match k with
  | 0 => .array .char
  | 1 => .array .int
  | 2 => .int
  | 3 => .int
  | 4 => .int
  | 5 => .int
  | 6 => .int
  | _ => .int
abbrev wsX10 : List Cond := u_ws RX1 TX1 8
theorem nmX1 : ∀ a, a < 8 → ∀ b, b < 8 → a ≠ b → (TX1 a).2.1 ≠ (TX1 b).2.1 := by decide +kernel
theorem tyX1_ok : ∀ k, k < 8 → parseFieldDescriptor (TX1 k).2.2.1 = some (tyX1 k) := by decide +kernel
abbrev cX1_init : ByteArray := prog_3_method_1_code
def yX1_init : MethodName := ⟨RX1, "<init>", "()V"⟩
abbrev cX1_append : ByteArray := prog_3_method_2_code
def yX1_append : MethodName := ⟨RX1, "append", "(C)V"⟩
abbrev cX1_parse : ByteArray := prog_3_method_3_code
def yX1_parse : MethodName := ⟨RX1, "parse", "()Z"⟩
abbrev cX1_takeValues : ByteArray := prog_3_method_4_code
def yX1_takeValues : MethodName := ⟨RX1, "takeValues", "()Z"⟩
abbrev cX1_takeSign : ByteArray := prog_3_method_5_code
def yX1_takeSign : MethodName := ⟨RX1, "takeSign", "(C)Z"⟩
abbrev cX1_takeDigit : ByteArray := prog_3_method_6_code
def yX1_takeDigit : MethodName := ⟨RX1, "takeDigit", "(CC)I"⟩
abbrev cX1_takeNumber : ByteArray := prog_3_method_7_code
def yX1_takeNumber : MethodName := ⟨RX1, "takeNumber", "()I"⟩
abbrev cX1_isInRange : ByteArray := prog_3_method_8_code
def yX1_isInRange : MethodName := ⟨RX1, "isInRange", "()Z"⟩
def RX2 : String := "SureAnswers$History"
def TX2 : u_T := fun k => match k with
  | 0 => ("SureAnswers$History", "states", "[LSureAnswers$State;", true)
  | 1 => ("SureAnswers$History", "oldest", "I", false)
  | _ => ("SureAnswers$History", "size", "I", false)
def tyX2 : Nat → FieldType := fun k => match k with
  | 0 => .array (.object "SureAnswers$State")
  | 1 => .int
  | _ => .int
abbrev wsX20 : List Cond := u_ws RX2 TX2 3
theorem nmX2 : ∀ a, a < 3 → ∀ b, b < 3 → a ≠ b → (TX2 a).2.1 ≠ (TX2 b).2.1 := by decide +kernel
theorem tyX2_ok : ∀ k, k < 3 → parseFieldDescriptor (TX2 k).2.2.1 = some (tyX2 k) := by decide +kernel
abbrev cX2_init : ByteArray := prog_4_method_1_code
def yX2_init : MethodName := ⟨RX2, "<init>", "()V"⟩
abbrev cX2_record : ByteArray := prog_4_method_2_code
def yX2_record : MethodName := ⟨RX2, "record", "(LSureAnswers$State;)V"⟩
def RX3 : String := "SureAnswers$Question"
def TX3 : u_T := fun k => match k with
  | 0 => ("SureAnswers$Question", "kind", "I", false)
  | 1 => ("SureAnswers$Question", "layers", "I", false)
  | 2 => ("SureAnswers$Question", "limit", "I", false)
  | 3 => ("SureAnswers$Question", "tolerance", "I", false)
  | 4 => ("SureAnswers$Question", "stopped", "Z", false)
  | 5 => ("SureAnswers$Question", "lower", "I", false)
  | 6 => ("SureAnswers$Question", "upper", "I", false)
  | _ => ("SureAnswers$Question", "guess", "I", false)
def tyX3 : Nat → FieldType := fun k => match k with
  | 0 => .int
  | 1 => .int
  | 2 => .int
  | 3 => .int
  | 4 => .boolean
  | 5 => .int
  | 6 => .int
  | _ => .int
abbrev wsX30 : List Cond := u_ws RX3 TX3 8
theorem nmX3 : ∀ a, a < 8 → ∀ b, b < 8 → a ≠ b → (TX3 a).2.1 ≠ (TX3 b).2.1 := by decide +kernel
theorem tyX3_ok : ∀ k, k < 8 → parseFieldDescriptor (TX3 k).2.2.1 = some (tyX3 k) := by decide +kernel
abbrev cX3_init : ByteArray := prog_5_method_1_code
def yX3_init : MethodName := ⟨RX3, "<init>", "()V"⟩
abbrev cX3_copyFrom : ByteArray := prog_5_method_2_code
def yX3_copyFrom : MethodName := ⟨RX3, "copyFrom", "(LSureAnswers$Question;)V"⟩
abbrev cX3_finish : ByteArray := prog_5_method_3_code
def yX3_finish : MethodName := ⟨RX3, "finish", "(I)V"⟩
abbrev cX3_urgency : ByteArray := prog_5_method_4_code
def yX3_urgency : MethodName := ⟨RX3, "urgency", "(LSureAnswers$Block;)I"⟩
def RX4 : String := "SureAnswers$State"
def TX4 : u_T := fun k => match k with
  | 0 => ("SureAnswers$State", "blocks", "[LSureAnswers$Block;", true)
  | 1 => ("SureAnswers$State", "questions", "[LSureAnswers$Question;", true)
  | 2 => ("SureAnswers$State", "blockCount", "I", false)
  | 3 => ("SureAnswers$State", "questionCount", "I", false)
  | 4 => ("SureAnswers$State", "plan", "I", false)
  | _ => ("SureAnswers$State", "turn", "I", false)
def tyX4 : Nat → FieldType := fun k => match k with
  | 0 => .array (.object "SureAnswers$Block")
  | 1 => .array (.object "SureAnswers$Question")
  | 2 => .int
  | 3 => .int
  | 4 => .int
  | _ => .int
abbrev wsX40 : List Cond := u_ws RX4 TX4 6
theorem nmX4 : ∀ a, a < 6 → ∀ b, b < 6 → a ≠ b → (TX4 a).2.1 ≠ (TX4 b).2.1 := by decide +kernel
theorem tyX4_ok : ∀ k, k < 6 → parseFieldDescriptor (TX4 k).2.2.1 = some (tyX4 k) := by decide +kernel
abbrev cX4_init : ByteArray := prog_6_method_1_code
def yX4_init : MethodName := ⟨RX4, "<init>", "()V"⟩
abbrev cX4_copyFrom : ByteArray := prog_6_method_2_code
def yX4_copyFrom : MethodName := ⟨RX4, "copyFrom", "(LSureAnswers$State;)V"⟩
abbrev cX4_hasBlock : ByteArray := prog_6_method_3_code
def yX4_hasBlock : MethodName := ⟨RX4, "hasBlock", "(I)Z"⟩
abbrev cX4_hasRow : ByteArray := prog_6_method_4_code
def yX4_hasRow : MethodName := ⟨RX4, "hasRow", "(II)Z"⟩
abbrev cX4_hasQuestion : ByteArray := prog_6_method_5_code
def yX4_hasQuestion : MethodName := ⟨RX4, "hasQuestion", "(I)Z"⟩
abbrev cX4_appendBlock : ByteArray := prog_6_method_6_code
def yX4_appendBlock : MethodName := ⟨RX4, "appendBlock", "(LSureAnswers$BlockText;)I"⟩
abbrev cX4_appendQuestion : ByteArray := prog_6_method_7_code
def yX4_appendQuestion : MethodName := ⟨RX4, "appendQuestion", "(IIII)I"⟩
abbrev cX4_rows : ByteArray := prog_6_method_10_code
def yX4_rows : MethodName := ⟨RX4, "rows", "(I)I"⟩
abbrev cX4_readRows : ByteArray := prog_6_method_11_code
def yX4_readRows : MethodName := ⟨RX4, "readRows", "(I)I"⟩
abbrev cX4_openQuestions : ByteArray := prog_6_method_12_code
def yX4_openQuestions : MethodName := ⟨RX4, "openQuestions", "()I"⟩
abbrev cX4_settle : ByteArray := prog_6_method_13_code
def yX4_settle : MethodName := ⟨RX4, "settle", "()V"⟩
abbrev cX4_answer : ByteArray := prog_6_method_14_code
def yX4_answer : MethodName := ⟨RX4, "answer", "(LSureAnswers$Question;I)I"⟩
abbrev cX4_assumed : ByteArray := prog_6_method_15_code
def yX4_assumed : MethodName := ⟨RX4, "assumed", "(LSureAnswers$Block;I)I"⟩
abbrev cX4_weight : ByteArray := prog_6_method_16_code
def yX4_weight : MethodName := ⟨RX4, "weight", "(LSureAnswers$Block;)I"⟩
abbrev cX4_nextBlock : ByteArray := prog_6_method_17_code
def yX4_nextBlock : MethodName := ⟨RX4, "nextBlock", "()I"⟩
abbrev cX4_blockInTurn : ByteArray := prog_6_method_18_code
def yX4_blockInTurn : MethodName := ⟨RX4, "blockInTurn", "()I"⟩
abbrev cX4_mostPressingBlock : ByteArray := prog_6_method_19_code
def yX4_mostPressingBlock : MethodName := ⟨RX4, "mostPressingBlock", "()I"⟩
abbrev cX4_readByPlan : ByteArray := prog_6_method_20_code
def yX4_readByPlan : MethodName := ⟨RX4, "readByPlan", "()Z"⟩
abbrev cX4_readWhileOpen : ByteArray := prog_6_method_21_code
def yX4_readWhileOpen : MethodName := ⟨RX4, "readWhileOpen", "()I"⟩
def RX5 : String := "SureAnswers"
def TX5 : u_T := fun k => match k with
  | 0 => ("SureAnswers", "text", "LSureAnswers$BlockText;", true)
  | 1 => ("SureAnswers", "state", "LSureAnswers$State;", true)
  | 2 => ("SureAnswers", "trial", "LSureAnswers$State;", true)
  | 3 => ("SureAnswers", "snapshot", "LSureAnswers$State;", true)
  | 4 => ("SureAnswers", "history", "LSureAnswers$History;", true)
  | _ => ("SureAnswers", "hasSnapshot", "Z", false)
def tyX5 : Nat → FieldType := fun k => match k with
  | 0 => .object "SureAnswers$BlockText"
  | 1 => .object "SureAnswers$State"
  | 2 => .object "SureAnswers$State"
  | 3 => .object "SureAnswers$State"
  | 4 => .object "SureAnswers$History"
  | _ => .boolean
abbrev wsX50 : List Cond := u_ws RX5 TX5 6
theorem nmX5 : ∀ a, a < 6 → ∀ b, b < 6 → a ≠ b → (TX5 a).2.1 ≠ (TX5 b).2.1 := by decide +kernel
theorem tyX5_ok : ∀ k, k < 6 → parseFieldDescriptor (TX5 k).2.2.1 = some (tyX5 k) := by decide +kernel
abbrev cX5_init : ByteArray := prog_1_method_1_code
def yX5_init : MethodName := ⟨RX5, "<init>", "()V"⟩
abbrev cX5_addBlock : ByteArray := prog_1_method_2_code
def yX5_addBlock : MethodName := ⟨RX5, "addBlock", "()I"⟩
abbrev cX5_ask : ByteArray := prog_1_method_7_code
def yX5_ask : MethodName := ⟨RX5, "ask", "(IIII)I"⟩
abbrev cX5_setPlan : ByteArray := prog_1_method_11_code
def yX5_setPlan : MethodName := ⟨RX5, "setPlan", "(I)I"⟩
abbrev cX5_read : ByteArray := prog_1_method_12_code
def yX5_read : MethodName := ⟨RX5, "read", "(I)I"⟩
abbrev cX5_readOn : ByteArray := prog_1_method_13_code
def yX5_readOn : MethodName := ⟨RX5, "readOn", "()I"⟩
abbrev cX5_type : ByteArray := prog_1_method_15_code
def yX5_type : MethodName := ⟨RX5, "type", "(C)I"⟩
abbrev cX5_clearText : ByteArray := prog_1_method_16_code
def yX5_clearText : MethodName := ⟨RX5, "clearText", "()I"⟩
abbrev cX5_block : ByteArray := prog_1_method_20_code
def yX5_block : MethodName := ⟨RX5, "block", "(II)I"⟩
abbrev cX5_value : ByteArray := prog_1_method_21_code
def yX5_value : MethodName := ⟨RX5, "value", "(II)I"⟩
abbrev cX5_question : ByteArray := prog_1_method_22_code
def yX5_question : MethodName := ⟨RX5, "question", "(II)I"⟩
abbrev cX5_next : ByteArray := prog_1_method_23_code
def yX5_next : MethodName := ⟨RX5, "next", "(I)I"⟩
abbrev cX5_stopsIn : ByteArray := prog_1_method_24_code
def yX5_stopsIn : MethodName := ⟨RX5, "stopsIn", "(I)I"⟩
abbrev cX5_best : ByteArray := prog_1_method_25_code
def yX5_best : MethodName := ⟨RX5, "best", "(I)I"⟩
abbrev cX5_count : ByteArray := prog_1_method_26_code
def yX5_count : MethodName := ⟨RX5, "count", "(I)I"⟩
abbrev cX5_isFromTo : ByteArray := prog_1_method_27_code
def yX5_isFromTo : MethodName := ⟨RX5, "isFromTo", "(III)Z"⟩
abbrev cX5_covers : ByteArray := prog_1_method_28_code
def yX5_covers : MethodName := ⟨RX5, "covers", "(II)Z"⟩
def RX6 : String := "SureAnswersModel"
def TX6 : u_T := fun k => match k with
  | _ => ("", "", "", false)
def tyX6 : Nat → FieldType := fun k => match k with
  | _ => .int
abbrev wsX60 : List Cond := u_ws RX6 TX6 0
theorem nmX6 : ∀ a, a < 0 → ∀ b, b < 0 → a ≠ b → (TX6 a).2.1 ≠ (TX6 b).2.1 := by decide +kernel
theorem tyX6_ok : ∀ k, k < 0 → parseFieldDescriptor (TX6 k).2.2.1 = some (tyX6 k) := by decide +kernel
def RJ9 : String := "java/lang/Math"
def TJ9 : u_T := fun k => match k with
  | _ => ("", "", "", false)
def tyJ9 : Nat → FieldType := fun k => match k with
  | _ => .int
abbrev wsJ90 : List Cond := u_ws RJ9 TJ9 0
theorem nmJ9 : ∀ a, a < 0 → ∀ b, b < 0 → a ≠ b → (TJ9 a).2.1 ≠ (TJ9 b).2.1 := by decide +kernel
theorem tyJ9_ok : ∀ k, k < 0 → parseFieldDescriptor (TJ9 k).2.2.1 = some (tyJ9 k) := by decide +kernel
abbrev cJ9_max_7cf53 : ByteArray := prog_9_method_65_code
def yJ9_max_7cf53 : MethodName := ⟨RJ9, "max", "(II)I"⟩
abbrev cJ9_min_7cf53 : ByteArray := prog_9_method_69_code
def yJ9_min_7cf53 : MethodName := ⟨RJ9, "min", "(II)I"⟩
def RJ10 : String := "java/lang/System"
def TJ10 : u_T := fun k => match k with
  | _ => ("", "", "", false)
def tyJ10 : Nat → FieldType := fun k => match k with
  | _ => .int
abbrev wsJ100 : List Cond := u_ws RJ10 TJ10 0
theorem nmJ10 : ∀ a, a < 0 → ∀ b, b < 0 → a ≠ b → (TJ10 a).2.1 ≠ (TJ10 b).2.1 := by decide +kernel
theorem tyJ10_ok : ∀ k, k < 0 → parseFieldDescriptor (TJ10 k).2.2.1 = some (tyJ10 k) := by decide +kernel
def RL : String := "SureAnswersLaw"
abbrev cL_cell : ByteArray := method_2_code
def yL_cell : MethodName := ⟨RL, "cell", "([II)I"⟩
abbrev cL_low : ByteArray := method_3_code
def yL_low : MethodName := ⟨RL, "low", "(II)I"⟩
abbrev cL_layer : ByteArray := method_4_code
def yL_layer : MethodName := ⟨RL, "layer", "(I)I"⟩
abbrev cL_bottom : ByteArray := method_5_code
def yL_bottom : MethodName := ⟨RL, "bottom", "(I)I"⟩
abbrev cL_top : ByteArray := method_6_code
def yL_top : MethodName := ⟨RL, "top", "(I)I"⟩
abbrev cL_rows : ByteArray := method_7_code
def yL_rows : MethodName := ⟨RL, "rows", "(I)I"⟩
abbrev cL_valueOf : ByteArray := method_8_code
def yL_valueOf : MethodName := ⟨RL, "valueOf", "(III)I"⟩
abbrev cL_type : ByteArray := method_9_code
def yL_type : MethodName := ⟨RL, "type", "(LSureAnswers;II)I"⟩
abbrev cL_number : ByteArray := method_10_code
def yL_number : MethodName := ⟨RL, "number", "(LSureAnswers;II)I"⟩
abbrev cL_write : ByteArray := method_11_code
def yL_write : MethodName := ⟨RL, "write", "(LSureAnswers;II)I"⟩
abbrev cL_build : ByteArray := method_12_code
def yL_build : MethodName := ⟨RL, "build", "(LSureAnswers;[I)Z"⟩
abbrev cL_truth : ByteArray := method_13_code
def yL_truth : MethodName := ⟨RL, "truth", "(LSureAnswers;[II)I"⟩
abbrev cL_isSound : ByteArray := method_14_code
def yL_isSound : MethodName := ⟨RL, "isSound", "(LSureAnswers;[II[I)Z"⟩
abbrev cL_areSound : ByteArray := method_15_code
def yL_areSound : MethodName := ⟨RL, "areSound", "(LSureAnswers;[I[I)Z"⟩
abbrev cL_law : ByteArray := code
def yL_law : MethodName := ⟨RL, "law", "([I)Z"⟩
abbrev vwCl : List vw_C := [(RX0, TX0, 9), (RX1, TX1, 8), (RX2, TX2, 3), (RX3, TX3, 8), (RX4, TX4, 6), (RX5, TX5, 6)]
end
section
theorem dX0_init_0 : decode cX0_init 0 = .ok (.aload_n 0, 1) := by decide +kernel
theorem dX0_init_1 : decode cX0_init 1 = .ok (.invokespecial 3, 3) := by decide +kernel
theorem dX0_init_4 : decode cX0_init 4 = .ok (.aload_n 0, 1) := by decide +kernel
theorem dX0_init_5 : decode cX0_init 5 = .ok (.bipush 16, 2) := by decide +kernel
theorem dX0_init_7 : decode cX0_init 7 = .ok (.newarray .int, 2) := by decide +kernel
theorem dX0_init_9 : decode cX0_init 9 = .ok (.putfield 9, 3) := by decide +kernel
theorem dX0_init_12 : decode cX0_init 12 = .ok (.return_, 1) := by decide +kernel
theorem dX0_copyFrom_0 : decode cX0_copyFrom 0 = .ok (.aload_n 1, 1) := by decide +kernel
theorem dX0_copyFrom_1 : decode cX0_copyFrom 1 = .ok (.getfield 9, 3) := by decide +kernel
theorem dX0_copyFrom_4 : decode cX0_copyFrom 4 = .ok (.iconst 0, 1) := by decide +kernel
theorem dX0_copyFrom_5 : decode cX0_copyFrom 5 = .ok (.aload_n 0, 1) := by decide +kernel
theorem dX0_copyFrom_6 : decode cX0_copyFrom 6 = .ok (.getfield 9, 3) := by decide +kernel
theorem dX0_copyFrom_9 : decode cX0_copyFrom 9 = .ok (.iconst 0, 1) := by decide +kernel
theorem dX0_copyFrom_10 : decode cX0_copyFrom 10 = .ok (.bipush 16, 2) := by decide +kernel
theorem dX0_copyFrom_12 : decode cX0_copyFrom 12 = .ok (.invokestatic 15, 3) := by decide +kernel
theorem dX0_copyFrom_15 : decode cX0_copyFrom 15 = .ok (.aload_n 0, 1) := by decide +kernel
theorem dX0_copyFrom_16 : decode cX0_copyFrom 16 = .ok (.aload_n 1, 1) := by decide +kernel
theorem dX0_copyFrom_17 : decode cX0_copyFrom 17 = .ok (.getfield 21, 3) := by decide +kernel
theorem dX0_copyFrom_20 : decode cX0_copyFrom 20 = .ok (.putfield 21, 3) := by decide +kernel
theorem dX0_copyFrom_23 : decode cX0_copyFrom 23 = .ok (.aload_n 0, 1) := by decide +kernel
theorem dX0_copyFrom_24 : decode cX0_copyFrom 24 = .ok (.aload_n 1, 1) := by decide +kernel
theorem dX0_copyFrom_25 : decode cX0_copyFrom 25 = .ok (.getfield 25, 3) := by decide +kernel
theorem dX0_copyFrom_28 : decode cX0_copyFrom 28 = .ok (.putfield 25, 3) := by decide +kernel
theorem dX0_copyFrom_31 : decode cX0_copyFrom 31 = .ok (.aload_n 0, 1) := by decide +kernel
theorem dX0_copyFrom_32 : decode cX0_copyFrom 32 = .ok (.aload_n 1, 1) := by decide +kernel
theorem dX0_copyFrom_33 : decode cX0_copyFrom 33 = .ok (.getfield 28, 3) := by decide +kernel
theorem dX0_copyFrom_36 : decode cX0_copyFrom 36 = .ok (.putfield 28, 3) := by decide +kernel
theorem dX0_copyFrom_39 : decode cX0_copyFrom 39 = .ok (.aload_n 0, 1) := by decide +kernel
theorem dX0_copyFrom_40 : decode cX0_copyFrom 40 = .ok (.aload_n 1, 1) := by decide +kernel
theorem dX0_copyFrom_41 : decode cX0_copyFrom 41 = .ok (.getfield 31, 3) := by decide +kernel
theorem dX0_copyFrom_44 : decode cX0_copyFrom 44 = .ok (.putfield 31, 3) := by decide +kernel
theorem dX0_copyFrom_47 : decode cX0_copyFrom 47 = .ok (.aload_n 0, 1) := by decide +kernel
theorem dX0_copyFrom_48 : decode cX0_copyFrom 48 = .ok (.aload_n 1, 1) := by decide +kernel
theorem dX0_copyFrom_49 : decode cX0_copyFrom 49 = .ok (.getfield 34, 3) := by decide +kernel
theorem dX0_copyFrom_52 : decode cX0_copyFrom 52 = .ok (.putfield 34, 3) := by decide +kernel
theorem dX0_copyFrom_55 : decode cX0_copyFrom 55 = .ok (.aload_n 0, 1) := by decide +kernel
theorem dX0_copyFrom_56 : decode cX0_copyFrom 56 = .ok (.aload_n 1, 1) := by decide +kernel
theorem dX0_copyFrom_57 : decode cX0_copyFrom 57 = .ok (.getfield 37, 3) := by decide +kernel
theorem dX0_copyFrom_60 : decode cX0_copyFrom 60 = .ok (.putfield 37, 3) := by decide +kernel
theorem dX0_copyFrom_63 : decode cX0_copyFrom 63 = .ok (.aload_n 0, 1) := by decide +kernel
theorem dX0_copyFrom_64 : decode cX0_copyFrom 64 = .ok (.aload_n 1, 1) := by decide +kernel
theorem dX0_copyFrom_65 : decode cX0_copyFrom 65 = .ok (.getfield 40, 3) := by decide +kernel
theorem dX0_copyFrom_68 : decode cX0_copyFrom 68 = .ok (.putfield 40, 3) := by decide +kernel
theorem dX0_copyFrom_71 : decode cX0_copyFrom 71 = .ok (.aload_n 0, 1) := by decide +kernel
theorem dX0_copyFrom_72 : decode cX0_copyFrom 72 = .ok (.aload_n 1, 1) := by decide +kernel
theorem dX0_copyFrom_73 : decode cX0_copyFrom 73 = .ok (.getfield 43, 3) := by decide +kernel
theorem dX0_copyFrom_76 : decode cX0_copyFrom 76 = .ok (.putfield 43, 3) := by decide +kernel
theorem dX0_copyFrom_79 : decode cX0_copyFrom 79 = .ok (.return_, 1) := by decide +kernel
theorem dX0_copyFromText_0 : decode cX0_copyFromText 0 = .ok (.aload_n 1, 1) := by decide +kernel
theorem dX0_copyFromText_1 : decode cX0_copyFromText 1 = .ok (.getfield 46, 3) := by decide +kernel
theorem dX0_copyFromText_4 : decode cX0_copyFromText 4 = .ok (.iconst 0, 1) := by decide +kernel
theorem dX0_copyFromText_5 : decode cX0_copyFromText 5 = .ok (.aload_n 0, 1) := by decide +kernel
theorem dX0_copyFromText_6 : decode cX0_copyFromText 6 = .ok (.getfield 9, 3) := by decide +kernel
theorem dX0_copyFromText_9 : decode cX0_copyFromText 9 = .ok (.iconst 0, 1) := by decide +kernel
theorem dX0_copyFromText_10 : decode cX0_copyFromText 10 = .ok (.bipush 16, 2) := by decide +kernel
theorem dX0_copyFromText_12 : decode cX0_copyFromText 12 = .ok (.invokestatic 15, 3) := by decide +kernel
theorem dX0_copyFromText_15 : decode cX0_copyFromText 15 = .ok (.aload_n 0, 1) := by decide +kernel
theorem dX0_copyFromText_16 : decode cX0_copyFromText 16 = .ok (.aload_n 1, 1) := by decide +kernel
theorem dX0_copyFromText_17 : decode cX0_copyFromText 17 = .ok (.getfield 49, 3) := by decide +kernel
theorem dX0_copyFromText_20 : decode cX0_copyFromText 20 = .ok (.putfield 21, 3) := by decide +kernel
theorem dX0_copyFromText_23 : decode cX0_copyFromText 23 = .ok (.aload_n 0, 1) := by decide +kernel
theorem dX0_copyFromText_24 : decode cX0_copyFromText 24 = .ok (.aload_n 1, 1) := by decide +kernel
theorem dX0_copyFromText_25 : decode cX0_copyFromText 25 = .ok (.getfield 50, 3) := by decide +kernel
theorem dX0_copyFromText_28 : decode cX0_copyFromText 28 = .ok (.putfield 25, 3) := by decide +kernel
theorem dX0_copyFromText_31 : decode cX0_copyFromText 31 = .ok (.aload_n 0, 1) := by decide +kernel
theorem dX0_copyFromText_32 : decode cX0_copyFromText 32 = .ok (.aload_n 1, 1) := by decide +kernel
theorem dX0_copyFromText_33 : decode cX0_copyFromText 33 = .ok (.getfield 51, 3) := by decide +kernel
theorem dX0_copyFromText_36 : decode cX0_copyFromText 36 = .ok (.putfield 28, 3) := by decide +kernel
theorem dX0_copyFromText_39 : decode cX0_copyFromText 39 = .ok (.aload_n 0, 1) := by decide +kernel
theorem dX0_copyFromText_40 : decode cX0_copyFromText 40 = .ok (.aload_n 1, 1) := by decide +kernel
theorem dX0_copyFromText_41 : decode cX0_copyFromText 41 = .ok (.getfield 52, 3) := by decide +kernel
theorem dX0_copyFromText_44 : decode cX0_copyFromText 44 = .ok (.putfield 31, 3) := by decide +kernel
theorem dX0_copyFromText_47 : decode cX0_copyFromText 47 = .ok (.aload_n 0, 1) := by decide +kernel
theorem dX0_copyFromText_48 : decode cX0_copyFromText 48 = .ok (.iconst 0, 1) := by decide +kernel
theorem dX0_copyFromText_49 : decode cX0_copyFromText 49 = .ok (.invokevirtual 53, 3) := by decide +kernel
theorem dX0_copyFromText_52 : decode cX0_copyFromText 52 = .ok (.return_, 1) := by decide +kernel
theorem dX0_unread_0 : decode cX0_unread 0 = .ok (.aload_n 0, 1) := by decide +kernel
theorem dX0_unread_1 : decode cX0_unread 1 = .ok (.getfield 31, 3) := by decide +kernel
theorem dX0_unread_4 : decode cX0_unread 4 = .ok (.aload_n 0, 1) := by decide +kernel
theorem dX0_unread_5 : decode cX0_unread 5 = .ok (.getfield 34, 3) := by decide +kernel
theorem dX0_unread_8 : decode cX0_unread 8 = .ok (.isub, 1) := by decide +kernel
theorem dX0_unread_9 : decode cX0_unread 9 = .ok (.ireturn, 1) := by decide +kernel
theorem dX0_readRow_0 : decode cX0_readRow 0 = .ok (.aload_n 0, 1) := by decide +kernel
theorem dX0_readRow_1 : decode cX0_readRow 1 = .ok (.getfield 34, 3) := by decide +kernel
theorem dX0_readRow_4 : decode cX0_readRow 4 = .ok (.aload_n 0, 1) := by decide +kernel
theorem dX0_readRow_5 : decode cX0_readRow 5 = .ok (.getfield 31, 3) := by decide +kernel
theorem dX0_readRow_8 : decode cX0_readRow 8 = .ok (.if_icmp .lt 6, 3) := by decide +kernel
theorem dX0_readRow_11 : decode cX0_readRow 11 = .ok (.bipush (-5), 2) := by decide +kernel
theorem dX0_readRow_13 : decode cX0_readRow 13 = .ok (.ireturn, 1) := by decide +kernel
theorem dX0_readRow_14 : decode cX0_readRow 14 = .ok (.aload_n 0, 1) := by decide +kernel
theorem dX0_readRow_15 : decode cX0_readRow 15 = .ok (.getfield 9, 3) := by decide +kernel
theorem dX0_readRow_18 : decode cX0_readRow 18 = .ok (.aload_n 0, 1) := by decide +kernel
theorem dX0_readRow_19 : decode cX0_readRow 19 = .ok (.getfield 34, 3) := by decide +kernel
theorem dX0_readRow_22 : decode cX0_readRow 22 = .ok (.iaload, 1) := by decide +kernel
theorem dX0_readRow_23 : decode cX0_readRow 23 = .ok (.istore_n 1, 1) := by decide +kernel
theorem dX0_readRow_24 : decode cX0_readRow 24 = .ok (.aload_n 0, 1) := by decide +kernel
theorem dX0_readRow_25 : decode cX0_readRow 25 = .ok (.dup, 1) := by decide +kernel
theorem dX0_readRow_26 : decode cX0_readRow 26 = .ok (.getfield 34, 3) := by decide +kernel
theorem dX0_readRow_29 : decode cX0_readRow 29 = .ok (.iconst 1, 1) := by decide +kernel
theorem dX0_readRow_30 : decode cX0_readRow 30 = .ok (.iadd, 1) := by decide +kernel
theorem dX0_readRow_31 : decode cX0_readRow 31 = .ok (.putfield 34, 3) := by decide +kernel
theorem dX0_readRow_34 : decode cX0_readRow 34 = .ok (.aload_n 0, 1) := by decide +kernel
theorem dX0_readRow_35 : decode cX0_readRow 35 = .ok (.dup, 1) := by decide +kernel
theorem dX0_readRow_36 : decode cX0_readRow 36 = .ok (.getfield 37, 3) := by decide +kernel
theorem dX0_readRow_39 : decode cX0_readRow 39 = .ok (.iload_n 1, 1) := by decide +kernel
theorem dX0_readRow_40 : decode cX0_readRow 40 = .ok (.iadd, 1) := by decide +kernel
theorem dX0_readRow_41 : decode cX0_readRow 41 = .ok (.putfield 37, 3) := by decide +kernel
theorem dX0_readRow_44 : decode cX0_readRow 44 = .ok (.aload_n 0, 1) := by decide +kernel
theorem dX0_readRow_45 : decode cX0_readRow 45 = .ok (.aload_n 0, 1) := by decide +kernel
theorem dX0_readRow_46 : decode cX0_readRow 46 = .ok (.getfield 40, 3) := by decide +kernel
theorem dX0_readRow_49 : decode cX0_readRow 49 = .ok (.iload_n 1, 1) := by decide +kernel
theorem dX0_readRow_50 : decode cX0_readRow 50 = .ok (.invokestatic 61, 3) := by decide +kernel
theorem dX0_readRow_53 : decode cX0_readRow 53 = .ok (.putfield 40, 3) := by decide +kernel
theorem dX0_readRow_56 : decode cX0_readRow 56 = .ok (.aload_n 0, 1) := by decide +kernel
theorem dX0_readRow_57 : decode cX0_readRow 57 = .ok (.aload_n 0, 1) := by decide +kernel
theorem dX0_readRow_58 : decode cX0_readRow 58 = .ok (.getfield 43, 3) := by decide +kernel
theorem dX0_readRow_61 : decode cX0_readRow 61 = .ok (.iload_n 1, 1) := by decide +kernel
theorem dX0_readRow_62 : decode cX0_readRow 62 = .ok (.invokestatic 67, 3) := by decide +kernel
theorem dX0_readRow_65 : decode cX0_readRow 65 = .ok (.putfield 43, 3) := by decide +kernel
theorem dX0_readRow_68 : decode cX0_readRow 68 = .ok (.iload_n 1, 1) := by decide +kernel
theorem dX0_readRow_69 : decode cX0_readRow 69 = .ok (.ireturn, 1) := by decide +kernel
theorem dX0_readFirst_0 : decode cX0_readFirst 0 = .ok (.aload_n 0, 1) := by decide +kernel
theorem dX0_readFirst_1 : decode cX0_readFirst 1 = .ok (.iconst 0, 1) := by decide +kernel
theorem dX0_readFirst_2 : decode cX0_readFirst 2 = .ok (.putfield 34, 3) := by decide +kernel
theorem dX0_readFirst_5 : decode cX0_readFirst 5 = .ok (.aload_n 0, 1) := by decide +kernel
theorem dX0_readFirst_6 : decode cX0_readFirst 6 = .ok (.iconst 0, 1) := by decide +kernel
theorem dX0_readFirst_7 : decode cX0_readFirst 7 = .ok (.putfield 37, 3) := by decide +kernel
theorem dX0_readFirst_10 : decode cX0_readFirst 10 = .ok (.aload_n 0, 1) := by decide +kernel
theorem dX0_readFirst_11 : decode cX0_readFirst 11 = .ok (.sipush 999, 3) := by decide +kernel
theorem dX0_readFirst_14 : decode cX0_readFirst 14 = .ok (.putfield 40, 3) := by decide +kernel
theorem dX0_readFirst_17 : decode cX0_readFirst 17 = .ok (.aload_n 0, 1) := by decide +kernel
theorem dX0_readFirst_18 : decode cX0_readFirst 18 = .ok (.iconst 0, 1) := by decide +kernel
theorem dX0_readFirst_19 : decode cX0_readFirst 19 = .ok (.putfield 43, 3) := by decide +kernel
theorem dX0_readFirst_22 : decode cX0_readFirst 22 = .ok (.iconst 0, 1) := by decide +kernel
theorem dX0_readFirst_23 : decode cX0_readFirst 23 = .ok (.istore_n 2, 1) := by decide +kernel
theorem dX0_readFirst_24 : decode cX0_readFirst 24 = .ok (.iload_n 2, 1) := by decide +kernel
theorem dX0_readFirst_25 : decode cX0_readFirst 25 = .ok (.iload_n 1, 1) := by decide +kernel
theorem dX0_readFirst_26 : decode cX0_readFirst 26 = .ok (.if_icmp .ge 14, 3) := by decide +kernel
theorem dX0_readFirst_29 : decode cX0_readFirst 29 = .ok (.aload_n 0, 1) := by decide +kernel
theorem dX0_readFirst_30 : decode cX0_readFirst 30 = .ok (.invokevirtual 70, 3) := by decide +kernel
theorem dX0_readFirst_33 : decode cX0_readFirst 33 = .ok (.pop, 1) := by decide +kernel
theorem dX0_readFirst_34 : decode cX0_readFirst 34 = .ok (.iinc 2 1, 3) := by decide +kernel
theorem dX0_readFirst_37 : decode cX0_readFirst 37 = .ok (.goto (-13), 3) := by decide +kernel
theorem dX0_readFirst_40 : decode cX0_readFirst 40 = .ok (.return_, 1) := by decide +kernel
theorem dX0_readFromLimit_0 : decode cX0_readFromLimit 0 = .ok (.iconst 0, 1) := by decide +kernel
theorem dX0_readFromLimit_1 : decode cX0_readFromLimit 1 = .ok (.istore_n 2, 1) := by decide +kernel
theorem dX0_readFromLimit_2 : decode cX0_readFromLimit 2 = .ok (.iconst 0, 1) := by decide +kernel
theorem dX0_readFromLimit_3 : decode cX0_readFromLimit 3 = .ok (.istore_n 3, 1) := by decide +kernel
theorem dX0_readFromLimit_4 : decode cX0_readFromLimit 4 = .ok (.iload_n 3, 1) := by decide +kernel
theorem dX0_readFromLimit_5 : decode cX0_readFromLimit 5 = .ok (.aload_n 0, 1) := by decide +kernel
theorem dX0_readFromLimit_6 : decode cX0_readFromLimit 6 = .ok (.getfield 34, 3) := by decide +kernel
theorem dX0_readFromLimit_9 : decode cX0_readFromLimit 9 = .ok (.if_icmp .ge 22, 3) := by decide +kernel
theorem dX0_readFromLimit_12 : decode cX0_readFromLimit 12 = .ok (.aload_n 0, 1) := by decide +kernel
theorem dX0_readFromLimit_13 : decode cX0_readFromLimit 13 = .ok (.getfield 9, 3) := by decide +kernel
theorem dX0_readFromLimit_16 : decode cX0_readFromLimit 16 = .ok (.iload_n 3, 1) := by decide +kernel
theorem dX0_readFromLimit_17 : decode cX0_readFromLimit 17 = .ok (.iaload, 1) := by decide +kernel
theorem dX0_readFromLimit_18 : decode cX0_readFromLimit 18 = .ok (.iload_n 1, 1) := by decide +kernel
theorem dX0_readFromLimit_19 : decode cX0_readFromLimit 19 = .ok (.if_icmp .lt 6, 3) := by decide +kernel
theorem dX0_readFromLimit_22 : decode cX0_readFromLimit 22 = .ok (.iinc 2 1, 3) := by decide +kernel
theorem dX0_readFromLimit_25 : decode cX0_readFromLimit 25 = .ok (.iinc 3 1, 3) := by decide +kernel
theorem dX0_readFromLimit_28 : decode cX0_readFromLimit 28 = .ok (.goto (-24), 3) := by decide +kernel
theorem dX0_readFromLimit_31 : decode cX0_readFromLimit 31 = .ok (.iload_n 2, 1) := by decide +kernel
theorem dX0_readFromLimit_32 : decode cX0_readFromLimit 32 = .ok (.ireturn, 1) := by decide +kernel
theorem dX0_share_0 : decode cX0_share 0 = .ok (.aload_n 0, 1) := by decide +kernel
theorem dX0_share_1 : decode cX0_share 1 = .ok (.invokevirtual 74, 3) := by decide +kernel
theorem dX0_share_4 : decode cX0_share 4 = .ok (.istore 4, 2) := by decide +kernel
theorem dX0_share_6 : decode cX0_share 6 = .ok (.iload_n 1, 1) := by decide +kernel
theorem dX0_share_7 : decode cX0_share 7 = .ok (.tableswitch 85 1 3 #[25, 43, 64], 25) := by decide +kernel
theorem dX0_share_32 : decode cX0_share 32 = .ok (.aload_n 0, 1) := by decide +kernel
theorem dX0_share_33 : decode cX0_share 33 = .ok (.iload_n 2, 1) := by decide +kernel
theorem dX0_share_34 : decode cX0_share 34 = .ok (.invokevirtual 77, 3) := by decide +kernel
theorem dX0_share_37 : decode cX0_share 37 = .ok (.iload_n 3, 1) := by decide +kernel
theorem dX0_share_38 : decode cX0_share 38 = .ok (.iload_n 2, 1) := by decide +kernel
theorem dX0_share_39 : decode cX0_share 39 = .ok (.if_icmp .lt 8, 3) := by decide +kernel
theorem dX0_share_42 : decode cX0_share 42 = .ok (.iload 4, 2) := by decide +kernel
theorem dX0_share_44 : decode cX0_share 44 = .ok (.goto 4, 3) := by decide +kernel
theorem dX0_share_47 : decode cX0_share 47 = .ok (.iconst 0, 1) := by decide +kernel
theorem dX0_share_48 : decode cX0_share 48 = .ok (.iadd, 1) := by decide +kernel
theorem dX0_share_49 : decode cX0_share 49 = .ok (.ireturn, 1) := by decide +kernel
theorem dX0_share_50 : decode cX0_share 50 = .ok (.iload 4, 2) := by decide +kernel
theorem dX0_share_52 : decode cX0_share 52 = .ok (.ifCond .le 14, 3) := by decide +kernel
theorem dX0_share_55 : decode cX0_share 55 = .ok (.aload_n 0, 1) := by decide +kernel
theorem dX0_share_56 : decode cX0_share 56 = .ok (.getfield 40, 3) := by decide +kernel
theorem dX0_share_59 : decode cX0_share 59 = .ok (.iload_n 3, 1) := by decide +kernel
theorem dX0_share_60 : decode cX0_share 60 = .ok (.invokestatic 61, 3) := by decide +kernel
theorem dX0_share_63 : decode cX0_share 63 = .ok (.goto 7, 3) := by decide +kernel
theorem dX0_share_66 : decode cX0_share 66 = .ok (.aload_n 0, 1) := by decide +kernel
theorem dX0_share_67 : decode cX0_share 67 = .ok (.getfield 40, 3) := by decide +kernel
theorem dX0_share_70 : decode cX0_share 70 = .ok (.ireturn, 1) := by decide +kernel
theorem dX0_share_71 : decode cX0_share 71 = .ok (.iload 4, 2) := by decide +kernel
theorem dX0_share_73 : decode cX0_share 73 = .ok (.ifCond .le 14, 3) := by decide +kernel
theorem dX0_share_76 : decode cX0_share 76 = .ok (.aload_n 0, 1) := by decide +kernel
theorem dX0_share_77 : decode cX0_share 77 = .ok (.getfield 43, 3) := by decide +kernel
theorem dX0_share_80 : decode cX0_share 80 = .ok (.iload_n 3, 1) := by decide +kernel
theorem dX0_share_81 : decode cX0_share 81 = .ok (.invokestatic 67, 3) := by decide +kernel
theorem dX0_share_84 : decode cX0_share 84 = .ok (.goto 7, 3) := by decide +kernel
theorem dX0_share_87 : decode cX0_share 87 = .ok (.aload_n 0, 1) := by decide +kernel
theorem dX0_share_88 : decode cX0_share 88 = .ok (.getfield 43, 3) := by decide +kernel
theorem dX0_share_91 : decode cX0_share 91 = .ok (.ireturn, 1) := by decide +kernel
theorem dX0_share_92 : decode cX0_share 92 = .ok (.aload_n 0, 1) := by decide +kernel
theorem dX0_share_93 : decode cX0_share 93 = .ok (.getfield 37, 3) := by decide +kernel
theorem dX0_share_96 : decode cX0_share 96 = .ok (.iload 4, 2) := by decide +kernel
theorem dX0_share_98 : decode cX0_share 98 = .ok (.iload_n 3, 1) := by decide +kernel
theorem dX0_share_99 : decode cX0_share 99 = .ok (.imul, 1) := by decide +kernel
theorem dX0_share_100 : decode cX0_share 100 = .ok (.iadd, 1) := by decide +kernel
theorem dX0_share_101 : decode cX0_share 101 = .ok (.ireturn, 1) := by decide +kernel
theorem dX1_init_0 : decode cX1_init 0 = .ok (.aload_n 0, 1) := by decide +kernel
theorem dX1_init_1 : decode cX1_init 1 = .ok (.invokespecial 3, 3) := by decide +kernel
theorem dX1_init_4 : decode cX1_init 4 = .ok (.aload_n 0, 1) := by decide +kernel
theorem dX1_init_5 : decode cX1_init 5 = .ok (.bipush 80, 2) := by decide +kernel
theorem dX1_init_7 : decode cX1_init 7 = .ok (.newarray .char, 2) := by decide +kernel
theorem dX1_init_9 : decode cX1_init 9 = .ok (.putfield 9, 3) := by decide +kernel
theorem dX1_init_12 : decode cX1_init 12 = .ok (.aload_n 0, 1) := by decide +kernel
theorem dX1_init_13 : decode cX1_init 13 = .ok (.bipush 16, 2) := by decide +kernel
theorem dX1_init_15 : decode cX1_init 15 = .ok (.newarray .int, 2) := by decide +kernel
theorem dX1_init_17 : decode cX1_init 17 = .ok (.putfield 15, 3) := by decide +kernel
theorem dX1_init_20 : decode cX1_init 20 = .ok (.return_, 1) := by decide +kernel
theorem dX1_append_0 : decode cX1_append 0 = .ok (.aload_n 0, 1) := by decide +kernel
theorem dX1_append_1 : decode cX1_append 1 = .ok (.getfield 19, 3) := by decide +kernel
theorem dX1_append_4 : decode cX1_append 4 = .ok (.bipush 80, 2) := by decide +kernel
theorem dX1_append_6 : decode cX1_append 6 = .ok (.if_icmp .ge 23, 3) := by decide +kernel
theorem dX1_append_9 : decode cX1_append 9 = .ok (.aload_n 0, 1) := by decide +kernel
theorem dX1_append_10 : decode cX1_append 10 = .ok (.getfield 9, 3) := by decide +kernel
theorem dX1_append_13 : decode cX1_append 13 = .ok (.aload_n 0, 1) := by decide +kernel
theorem dX1_append_14 : decode cX1_append 14 = .ok (.getfield 19, 3) := by decide +kernel
theorem dX1_append_17 : decode cX1_append 17 = .ok (.iload_n 1, 1) := by decide +kernel
theorem dX1_append_18 : decode cX1_append 18 = .ok (.castore, 1) := by decide +kernel
theorem dX1_append_19 : decode cX1_append 19 = .ok (.aload_n 0, 1) := by decide +kernel
theorem dX1_append_20 : decode cX1_append 20 = .ok (.dup, 1) := by decide +kernel
theorem dX1_append_21 : decode cX1_append 21 = .ok (.getfield 19, 3) := by decide +kernel
theorem dX1_append_24 : decode cX1_append 24 = .ok (.iconst 1, 1) := by decide +kernel
theorem dX1_append_25 : decode cX1_append 25 = .ok (.iadd, 1) := by decide +kernel
theorem dX1_append_26 : decode cX1_append 26 = .ok (.putfield 19, 3) := by decide +kernel
theorem dX1_append_29 : decode cX1_append 29 = .ok (.return_, 1) := by decide +kernel
theorem dX1_parse_0 : decode cX1_parse 0 = .ok (.aload_n 0, 1) := by decide +kernel
theorem dX1_parse_1 : decode cX1_parse 1 = .ok (.iconst 0, 1) := by decide +kernel
theorem dX1_parse_2 : decode cX1_parse 2 = .ok (.putfield 23, 3) := by decide +kernel
theorem dX1_parse_5 : decode cX1_parse 5 = .ok (.aload_n 0, 1) := by decide +kernel
theorem dX1_parse_6 : decode cX1_parse 6 = .ok (.aload_n 0, 1) := by decide +kernel
theorem dX1_parse_7 : decode cX1_parse 7 = .ok (.bipush 48, 2) := by decide +kernel
theorem dX1_parse_9 : decode cX1_parse 9 = .ok (.bipush 51, 2) := by decide +kernel
theorem dX1_parse_11 : decode cX1_parse 11 = .ok (.invokevirtual 26, 3) := by decide +kernel
theorem dX1_parse_14 : decode cX1_parse 14 = .ok (.putfield 30, 3) := by decide +kernel
theorem dX1_parse_17 : decode cX1_parse 17 = .ok (.aload_n 0, 1) := by decide +kernel
theorem dX1_parse_18 : decode cX1_parse 18 = .ok (.getfield 30, 3) := by decide +kernel
theorem dX1_parse_21 : decode cX1_parse 21 = .ok (.ifCond .lt 12, 3) := by decide +kernel
theorem dX1_parse_24 : decode cX1_parse 24 = .ok (.aload_n 0, 1) := by decide +kernel
theorem dX1_parse_25 : decode cX1_parse 25 = .ok (.bipush 58, 2) := by decide +kernel
theorem dX1_parse_27 : decode cX1_parse 27 = .ok (.invokevirtual 33, 3) := by decide +kernel
theorem dX1_parse_30 : decode cX1_parse 30 = .ok (.ifCond .ne 5, 3) := by decide +kernel
theorem dX1_parse_33 : decode cX1_parse 33 = .ok (.iconst 0, 1) := by decide +kernel
theorem dX1_parse_34 : decode cX1_parse 34 = .ok (.ireturn, 1) := by decide +kernel
theorem dX1_parse_35 : decode cX1_parse 35 = .ok (.aload_n 0, 1) := by decide +kernel
theorem dX1_parse_36 : decode cX1_parse 36 = .ok (.aload_n 0, 1) := by decide +kernel
theorem dX1_parse_37 : decode cX1_parse 37 = .ok (.invokevirtual 37, 3) := by decide +kernel
theorem dX1_parse_40 : decode cX1_parse 40 = .ok (.putfield 41, 3) := by decide +kernel
theorem dX1_parse_43 : decode cX1_parse 43 = .ok (.aload_n 0, 1) := by decide +kernel
theorem dX1_parse_44 : decode cX1_parse 44 = .ok (.getfield 41, 3) := by decide +kernel
theorem dX1_parse_47 : decode cX1_parse 47 = .ok (.ifCond .lt 12, 3) := by decide +kernel
theorem dX1_parse_50 : decode cX1_parse 50 = .ok (.aload_n 0, 1) := by decide +kernel
theorem dX1_parse_51 : decode cX1_parse 51 = .ok (.bipush 45, 2) := by decide +kernel
theorem dX1_parse_53 : decode cX1_parse 53 = .ok (.invokevirtual 33, 3) := by decide +kernel
theorem dX1_parse_56 : decode cX1_parse 56 = .ok (.ifCond .ne 5, 3) := by decide +kernel
theorem dX1_parse_59 : decode cX1_parse 59 = .ok (.iconst 0, 1) := by decide +kernel
theorem dX1_parse_60 : decode cX1_parse 60 = .ok (.ireturn, 1) := by decide +kernel
theorem dX1_parse_61 : decode cX1_parse 61 = .ok (.aload_n 0, 1) := by decide +kernel
theorem dX1_parse_62 : decode cX1_parse 62 = .ok (.aload_n 0, 1) := by decide +kernel
theorem dX1_parse_63 : decode cX1_parse 63 = .ok (.invokevirtual 37, 3) := by decide +kernel
theorem dX1_parse_66 : decode cX1_parse 66 = .ok (.putfield 44, 3) := by decide +kernel
theorem dX1_parse_69 : decode cX1_parse 69 = .ok (.aload_n 0, 1) := by decide +kernel
theorem dX1_parse_70 : decode cX1_parse 70 = .ok (.getfield 44, 3) := by decide +kernel
theorem dX1_parse_73 : decode cX1_parse 73 = .ok (.ifCond .lt 12, 3) := by decide +kernel
theorem dX1_parse_76 : decode cX1_parse 76 = .ok (.aload_n 0, 1) := by decide +kernel
theorem dX1_parse_77 : decode cX1_parse 77 = .ok (.bipush 61, 2) := by decide +kernel
theorem dX1_parse_79 : decode cX1_parse 79 = .ok (.invokevirtual 33, 3) := by decide +kernel
theorem dX1_parse_82 : decode cX1_parse 82 = .ok (.ifCond .ne 5, 3) := by decide +kernel
theorem dX1_parse_85 : decode cX1_parse 85 = .ok (.iconst 0, 1) := by decide +kernel
theorem dX1_parse_86 : decode cX1_parse 86 = .ok (.ireturn, 1) := by decide +kernel
theorem dX1_parse_87 : decode cX1_parse 87 = .ok (.aload_n 0, 1) := by decide +kernel
theorem dX1_parse_88 : decode cX1_parse 88 = .ok (.invokevirtual 47, 3) := by decide +kernel
theorem dX1_parse_91 : decode cX1_parse 91 = .ok (.ireturn, 1) := by decide +kernel
theorem dX1_takeValues_0 : decode cX1_takeValues 0 = .ok (.aload_n 0, 1) := by decide +kernel
theorem dX1_takeValues_1 : decode cX1_takeValues 1 = .ok (.iconst 0, 1) := by decide +kernel
theorem dX1_takeValues_2 : decode cX1_takeValues 2 = .ok (.putfield 51, 3) := by decide +kernel
theorem dX1_takeValues_5 : decode cX1_takeValues 5 = .ok (.iconst 0, 1) := by decide +kernel
theorem dX1_takeValues_6 : decode cX1_takeValues 6 = .ok (.istore_n 1, 1) := by decide +kernel
theorem dX1_takeValues_7 : decode cX1_takeValues 7 = .ok (.iload_n 1, 1) := by decide +kernel
theorem dX1_takeValues_8 : decode cX1_takeValues 8 = .ok (.bipush 16, 2) := by decide +kernel
theorem dX1_takeValues_10 : decode cX1_takeValues 10 = .ok (.if_icmp .ge 65, 3) := by decide +kernel
theorem dX1_takeValues_13 : decode cX1_takeValues 13 = .ok (.iload_n 1, 1) := by decide +kernel
theorem dX1_takeValues_14 : decode cX1_takeValues 14 = .ok (.ifCond .le 14, 3) := by decide +kernel
theorem dX1_takeValues_17 : decode cX1_takeValues 17 = .ok (.aload_n 0, 1) := by decide +kernel
theorem dX1_takeValues_18 : decode cX1_takeValues 18 = .ok (.bipush 44, 2) := by decide +kernel
theorem dX1_takeValues_20 : decode cX1_takeValues 20 = .ok (.invokevirtual 33, 3) := by decide +kernel
theorem dX1_takeValues_23 : decode cX1_takeValues 23 = .ok (.ifCond .ne 5, 3) := by decide +kernel
theorem dX1_takeValues_26 : decode cX1_takeValues 26 = .ok (.iconst 0, 1) := by decide +kernel
theorem dX1_takeValues_27 : decode cX1_takeValues 27 = .ok (.ireturn, 1) := by decide +kernel
theorem dX1_takeValues_28 : decode cX1_takeValues 28 = .ok (.aload_n 0, 1) := by decide +kernel
theorem dX1_takeValues_29 : decode cX1_takeValues 29 = .ok (.invokevirtual 37, 3) := by decide +kernel
theorem dX1_takeValues_32 : decode cX1_takeValues 32 = .ok (.istore_n 2, 1) := by decide +kernel
theorem dX1_takeValues_33 : decode cX1_takeValues 33 = .ok (.iload_n 2, 1) := by decide +kernel
theorem dX1_takeValues_34 : decode cX1_takeValues 34 = .ok (.ifCond .ge 5, 3) := by decide +kernel
theorem dX1_takeValues_37 : decode cX1_takeValues 37 = .ok (.iconst 0, 1) := by decide +kernel
theorem dX1_takeValues_38 : decode cX1_takeValues 38 = .ok (.ireturn, 1) := by decide +kernel
theorem dX1_takeValues_39 : decode cX1_takeValues 39 = .ok (.aload_n 0, 1) := by decide +kernel
theorem dX1_takeValues_40 : decode cX1_takeValues 40 = .ok (.getfield 15, 3) := by decide +kernel
theorem dX1_takeValues_43 : decode cX1_takeValues 43 = .ok (.iload_n 1, 1) := by decide +kernel
theorem dX1_takeValues_44 : decode cX1_takeValues 44 = .ok (.iload_n 2, 1) := by decide +kernel
theorem dX1_takeValues_45 : decode cX1_takeValues 45 = .ok (.iastore, 1) := by decide +kernel
theorem dX1_takeValues_46 : decode cX1_takeValues 46 = .ok (.aload_n 0, 1) := by decide +kernel
theorem dX1_takeValues_47 : decode cX1_takeValues 47 = .ok (.dup, 1) := by decide +kernel
theorem dX1_takeValues_48 : decode cX1_takeValues 48 = .ok (.getfield 51, 3) := by decide +kernel
theorem dX1_takeValues_51 : decode cX1_takeValues 51 = .ok (.iconst 1, 1) := by decide +kernel
theorem dX1_takeValues_52 : decode cX1_takeValues 52 = .ok (.iadd, 1) := by decide +kernel
theorem dX1_takeValues_53 : decode cX1_takeValues 53 = .ok (.putfield 51, 3) := by decide +kernel
theorem dX1_takeValues_56 : decode cX1_takeValues 56 = .ok (.aload_n 0, 1) := by decide +kernel
theorem dX1_takeValues_57 : decode cX1_takeValues 57 = .ok (.getfield 23, 3) := by decide +kernel
theorem dX1_takeValues_60 : decode cX1_takeValues 60 = .ok (.aload_n 0, 1) := by decide +kernel
theorem dX1_takeValues_61 : decode cX1_takeValues 61 = .ok (.getfield 19, 3) := by decide +kernel
theorem dX1_takeValues_64 : decode cX1_takeValues 64 = .ok (.if_icmp .lt 5, 3) := by decide +kernel
theorem dX1_takeValues_67 : decode cX1_takeValues 67 = .ok (.iconst 1, 1) := by decide +kernel
theorem dX1_takeValues_68 : decode cX1_takeValues 68 = .ok (.ireturn, 1) := by decide +kernel
theorem dX1_takeValues_69 : decode cX1_takeValues 69 = .ok (.iinc 1 1, 3) := by decide +kernel
theorem dX1_takeValues_72 : decode cX1_takeValues 72 = .ok (.goto (-65), 3) := by decide +kernel
theorem dX1_takeValues_75 : decode cX1_takeValues 75 = .ok (.iconst 0, 1) := by decide +kernel
theorem dX1_takeValues_76 : decode cX1_takeValues 76 = .ok (.ireturn, 1) := by decide +kernel
theorem dX1_takeSign_0 : decode cX1_takeSign 0 = .ok (.aload_n 0, 1) := by decide +kernel
theorem dX1_takeSign_1 : decode cX1_takeSign 1 = .ok (.getfield 23, 3) := by decide +kernel
theorem dX1_takeSign_4 : decode cX1_takeSign 4 = .ok (.aload_n 0, 1) := by decide +kernel
theorem dX1_takeSign_5 : decode cX1_takeSign 5 = .ok (.getfield 19, 3) := by decide +kernel
theorem dX1_takeSign_8 : decode cX1_takeSign 8 = .ok (.if_icmp .ge 16, 3) := by decide +kernel
theorem dX1_takeSign_11 : decode cX1_takeSign 11 = .ok (.aload_n 0, 1) := by decide +kernel
theorem dX1_takeSign_12 : decode cX1_takeSign 12 = .ok (.getfield 9, 3) := by decide +kernel
theorem dX1_takeSign_15 : decode cX1_takeSign 15 = .ok (.aload_n 0, 1) := by decide +kernel
theorem dX1_takeSign_16 : decode cX1_takeSign 16 = .ok (.getfield 23, 3) := by decide +kernel
theorem dX1_takeSign_19 : decode cX1_takeSign 19 = .ok (.caload, 1) := by decide +kernel
theorem dX1_takeSign_20 : decode cX1_takeSign 20 = .ok (.iload_n 1, 1) := by decide +kernel
theorem dX1_takeSign_21 : decode cX1_takeSign 21 = .ok (.if_icmp .eq 5, 3) := by decide +kernel
theorem dX1_takeSign_24 : decode cX1_takeSign 24 = .ok (.iconst 0, 1) := by decide +kernel
theorem dX1_takeSign_25 : decode cX1_takeSign 25 = .ok (.ireturn, 1) := by decide +kernel
theorem dX1_takeSign_26 : decode cX1_takeSign 26 = .ok (.aload_n 0, 1) := by decide +kernel
theorem dX1_takeSign_27 : decode cX1_takeSign 27 = .ok (.dup, 1) := by decide +kernel
theorem dX1_takeSign_28 : decode cX1_takeSign 28 = .ok (.getfield 23, 3) := by decide +kernel
theorem dX1_takeSign_31 : decode cX1_takeSign 31 = .ok (.iconst 1, 1) := by decide +kernel
theorem dX1_takeSign_32 : decode cX1_takeSign 32 = .ok (.iadd, 1) := by decide +kernel
theorem dX1_takeSign_33 : decode cX1_takeSign 33 = .ok (.putfield 23, 3) := by decide +kernel
theorem dX1_takeSign_36 : decode cX1_takeSign 36 = .ok (.iconst 1, 1) := by decide +kernel
theorem dX1_takeSign_37 : decode cX1_takeSign 37 = .ok (.ireturn, 1) := by decide +kernel
theorem dX1_takeDigit_0 : decode cX1_takeDigit 0 = .ok (.aload_n 0, 1) := by decide +kernel
theorem dX1_takeDigit_1 : decode cX1_takeDigit 1 = .ok (.getfield 23, 3) := by decide +kernel
theorem dX1_takeDigit_4 : decode cX1_takeDigit 4 = .ok (.aload_n 0, 1) := by decide +kernel
theorem dX1_takeDigit_5 : decode cX1_takeDigit 5 = .ok (.getfield 19, 3) := by decide +kernel
theorem dX1_takeDigit_8 : decode cX1_takeDigit 8 = .ok (.if_icmp .ge 29, 3) := by decide +kernel
theorem dX1_takeDigit_11 : decode cX1_takeDigit 11 = .ok (.aload_n 0, 1) := by decide +kernel
theorem dX1_takeDigit_12 : decode cX1_takeDigit 12 = .ok (.getfield 9, 3) := by decide +kernel
theorem dX1_takeDigit_15 : decode cX1_takeDigit 15 = .ok (.aload_n 0, 1) := by decide +kernel
theorem dX1_takeDigit_16 : decode cX1_takeDigit 16 = .ok (.getfield 23, 3) := by decide +kernel
theorem dX1_takeDigit_19 : decode cX1_takeDigit 19 = .ok (.caload, 1) := by decide +kernel
theorem dX1_takeDigit_20 : decode cX1_takeDigit 20 = .ok (.iload_n 1, 1) := by decide +kernel
theorem dX1_takeDigit_21 : decode cX1_takeDigit 21 = .ok (.if_icmp .lt 16, 3) := by decide +kernel
theorem dX1_takeDigit_24 : decode cX1_takeDigit 24 = .ok (.aload_n 0, 1) := by decide +kernel
theorem dX1_takeDigit_25 : decode cX1_takeDigit 25 = .ok (.getfield 9, 3) := by decide +kernel
theorem dX1_takeDigit_28 : decode cX1_takeDigit 28 = .ok (.aload_n 0, 1) := by decide +kernel
theorem dX1_takeDigit_29 : decode cX1_takeDigit 29 = .ok (.getfield 23, 3) := by decide +kernel
theorem dX1_takeDigit_32 : decode cX1_takeDigit 32 = .ok (.caload, 1) := by decide +kernel
theorem dX1_takeDigit_33 : decode cX1_takeDigit 33 = .ok (.iload_n 2, 1) := by decide +kernel
theorem dX1_takeDigit_34 : decode cX1_takeDigit 34 = .ok (.if_icmp .le 5, 3) := by decide +kernel
theorem dX1_takeDigit_37 : decode cX1_takeDigit 37 = .ok (.iconst (-1), 1) := by decide +kernel
theorem dX1_takeDigit_38 : decode cX1_takeDigit 38 = .ok (.ireturn, 1) := by decide +kernel
theorem dX1_takeDigit_39 : decode cX1_takeDigit 39 = .ok (.aload_n 0, 1) := by decide +kernel
theorem dX1_takeDigit_40 : decode cX1_takeDigit 40 = .ok (.getfield 9, 3) := by decide +kernel
theorem dX1_takeDigit_43 : decode cX1_takeDigit 43 = .ok (.aload_n 0, 1) := by decide +kernel
theorem dX1_takeDigit_44 : decode cX1_takeDigit 44 = .ok (.getfield 23, 3) := by decide +kernel
theorem dX1_takeDigit_47 : decode cX1_takeDigit 47 = .ok (.caload, 1) := by decide +kernel
theorem dX1_takeDigit_48 : decode cX1_takeDigit 48 = .ok (.bipush 48, 2) := by decide +kernel
theorem dX1_takeDigit_50 : decode cX1_takeDigit 50 = .ok (.isub, 1) := by decide +kernel
theorem dX1_takeDigit_51 : decode cX1_takeDigit 51 = .ok (.istore_n 3, 1) := by decide +kernel
theorem dX1_takeDigit_52 : decode cX1_takeDigit 52 = .ok (.aload_n 0, 1) := by decide +kernel
theorem dX1_takeDigit_53 : decode cX1_takeDigit 53 = .ok (.dup, 1) := by decide +kernel
theorem dX1_takeDigit_54 : decode cX1_takeDigit 54 = .ok (.getfield 23, 3) := by decide +kernel
theorem dX1_takeDigit_57 : decode cX1_takeDigit 57 = .ok (.iconst 1, 1) := by decide +kernel
theorem dX1_takeDigit_58 : decode cX1_takeDigit 58 = .ok (.iadd, 1) := by decide +kernel
theorem dX1_takeDigit_59 : decode cX1_takeDigit 59 = .ok (.putfield 23, 3) := by decide +kernel
theorem dX1_takeDigit_62 : decode cX1_takeDigit 62 = .ok (.iload_n 3, 1) := by decide +kernel
theorem dX1_takeDigit_63 : decode cX1_takeDigit 63 = .ok (.ireturn, 1) := by decide +kernel
theorem dX1_takeNumber_0 : decode cX1_takeNumber 0 = .ok (.aload_n 0, 1) := by decide +kernel
theorem dX1_takeNumber_1 : decode cX1_takeNumber 1 = .ok (.bipush 48, 2) := by decide +kernel
theorem dX1_takeNumber_3 : decode cX1_takeNumber 3 = .ok (.bipush 57, 2) := by decide +kernel
theorem dX1_takeNumber_5 : decode cX1_takeNumber 5 = .ok (.invokevirtual 26, 3) := by decide +kernel
theorem dX1_takeNumber_8 : decode cX1_takeNumber 8 = .ok (.istore_n 1, 1) := by decide +kernel
theorem dX1_takeNumber_9 : decode cX1_takeNumber 9 = .ok (.iconst 1, 1) := by decide +kernel
theorem dX1_takeNumber_10 : decode cX1_takeNumber 10 = .ok (.istore_n 2, 1) := by decide +kernel
theorem dX1_takeNumber_11 : decode cX1_takeNumber 11 = .ok (.iload_n 2, 1) := by decide +kernel
theorem dX1_takeNumber_12 : decode cX1_takeNumber 12 = .ok (.iconst 3, 1) := by decide +kernel
theorem dX1_takeNumber_13 : decode cX1_takeNumber 13 = .ok (.if_icmp .ge 35, 3) := by decide +kernel
theorem dX1_takeNumber_16 : decode cX1_takeNumber 16 = .ok (.iload_n 1, 1) := by decide +kernel
theorem dX1_takeNumber_17 : decode cX1_takeNumber 17 = .ok (.ifCond .le 31, 3) := by decide +kernel
theorem dX1_takeNumber_20 : decode cX1_takeNumber 20 = .ok (.aload_n 0, 1) := by decide +kernel
theorem dX1_takeNumber_21 : decode cX1_takeNumber 21 = .ok (.bipush 48, 2) := by decide +kernel
theorem dX1_takeNumber_23 : decode cX1_takeNumber 23 = .ok (.bipush 57, 2) := by decide +kernel
theorem dX1_takeNumber_25 : decode cX1_takeNumber 25 = .ok (.invokevirtual 26, 3) := by decide +kernel
theorem dX1_takeNumber_28 : decode cX1_takeNumber 28 = .ok (.istore_n 3, 1) := by decide +kernel
theorem dX1_takeNumber_29 : decode cX1_takeNumber 29 = .ok (.iload_n 3, 1) := by decide +kernel
theorem dX1_takeNumber_30 : decode cX1_takeNumber 30 = .ok (.ifCond .ge 5, 3) := by decide +kernel
theorem dX1_takeNumber_33 : decode cX1_takeNumber 33 = .ok (.iload_n 1, 1) := by decide +kernel
theorem dX1_takeNumber_34 : decode cX1_takeNumber 34 = .ok (.ireturn, 1) := by decide +kernel
theorem dX1_takeNumber_35 : decode cX1_takeNumber 35 = .ok (.bipush 10, 2) := by decide +kernel
theorem dX1_takeNumber_37 : decode cX1_takeNumber 37 = .ok (.iload_n 1, 1) := by decide +kernel
theorem dX1_takeNumber_38 : decode cX1_takeNumber 38 = .ok (.imul, 1) := by decide +kernel
theorem dX1_takeNumber_39 : decode cX1_takeNumber 39 = .ok (.iload_n 3, 1) := by decide +kernel
theorem dX1_takeNumber_40 : decode cX1_takeNumber 40 = .ok (.iadd, 1) := by decide +kernel
theorem dX1_takeNumber_41 : decode cX1_takeNumber 41 = .ok (.istore_n 1, 1) := by decide +kernel
theorem dX1_takeNumber_42 : decode cX1_takeNumber 42 = .ok (.iinc 2 1, 3) := by decide +kernel
theorem dX1_takeNumber_45 : decode cX1_takeNumber 45 = .ok (.goto (-34), 3) := by decide +kernel
theorem dX1_takeNumber_48 : decode cX1_takeNumber 48 = .ok (.iload_n 1, 1) := by decide +kernel
theorem dX1_takeNumber_49 : decode cX1_takeNumber 49 = .ok (.ireturn, 1) := by decide +kernel
theorem dX1_isInRange_0 : decode cX1_isInRange 0 = .ok (.aload_n 0, 1) := by decide +kernel
theorem dX1_isInRange_1 : decode cX1_isInRange 1 = .ok (.getfield 41, 3) := by decide +kernel
theorem dX1_isInRange_4 : decode cX1_isInRange 4 = .ok (.aload_n 0, 1) := by decide +kernel
theorem dX1_isInRange_5 : decode cX1_isInRange 5 = .ok (.getfield 44, 3) := by decide +kernel
theorem dX1_isInRange_8 : decode cX1_isInRange 8 = .ok (.if_icmp .le 5, 3) := by decide +kernel
theorem dX1_isInRange_11 : decode cX1_isInRange 11 = .ok (.iconst 0, 1) := by decide +kernel
theorem dX1_isInRange_12 : decode cX1_isInRange 12 = .ok (.ireturn, 1) := by decide +kernel
theorem dX1_isInRange_13 : decode cX1_isInRange 13 = .ok (.iconst 0, 1) := by decide +kernel
theorem dX1_isInRange_14 : decode cX1_isInRange 14 = .ok (.istore_n 1, 1) := by decide +kernel
theorem dX1_isInRange_15 : decode cX1_isInRange 15 = .ok (.iload_n 1, 1) := by decide +kernel
theorem dX1_isInRange_16 : decode cX1_isInRange 16 = .ok (.aload_n 0, 1) := by decide +kernel
theorem dX1_isInRange_17 : decode cX1_isInRange 17 = .ok (.getfield 51, 3) := by decide +kernel
theorem dX1_isInRange_20 : decode cX1_isInRange 20 = .ok (.if_icmp .ge 31, 3) := by decide +kernel
theorem dX1_isInRange_23 : decode cX1_isInRange 23 = .ok (.aload_n 0, 1) := by decide +kernel
theorem dX1_isInRange_24 : decode cX1_isInRange 24 = .ok (.getfield 15, 3) := by decide +kernel
theorem dX1_isInRange_27 : decode cX1_isInRange 27 = .ok (.iload_n 1, 1) := by decide +kernel
theorem dX1_isInRange_28 : decode cX1_isInRange 28 = .ok (.iaload, 1) := by decide +kernel
theorem dX1_isInRange_29 : decode cX1_isInRange 29 = .ok (.aload_n 0, 1) := by decide +kernel
theorem dX1_isInRange_30 : decode cX1_isInRange 30 = .ok (.getfield 41, 3) := by decide +kernel
theorem dX1_isInRange_33 : decode cX1_isInRange 33 = .ok (.aload_n 0, 1) := by decide +kernel
theorem dX1_isInRange_34 : decode cX1_isInRange 34 = .ok (.getfield 44, 3) := by decide +kernel
theorem dX1_isInRange_37 : decode cX1_isInRange 37 = .ok (.invokestatic 54, 3) := by decide +kernel
theorem dX1_isInRange_40 : decode cX1_isInRange 40 = .ok (.ifCond .ne 5, 3) := by decide +kernel
theorem dX1_isInRange_43 : decode cX1_isInRange 43 = .ok (.iconst 0, 1) := by decide +kernel
theorem dX1_isInRange_44 : decode cX1_isInRange 44 = .ok (.ireturn, 1) := by decide +kernel
theorem dX1_isInRange_45 : decode cX1_isInRange 45 = .ok (.iinc 1 1, 3) := by decide +kernel
theorem dX1_isInRange_48 : decode cX1_isInRange 48 = .ok (.goto (-33), 3) := by decide +kernel
theorem dX1_isInRange_51 : decode cX1_isInRange 51 = .ok (.iconst 1, 1) := by decide +kernel
theorem dX1_isInRange_52 : decode cX1_isInRange 52 = .ok (.ireturn, 1) := by decide +kernel
theorem dX2_init_0 : decode cX2_init 0 = .ok (.aload_n 0, 1) := by decide +kernel
theorem dX2_init_1 : decode cX2_init 1 = .ok (.invokespecial 3, 3) := by decide +kernel
theorem dX2_init_4 : decode cX2_init 4 = .ok (.aload_n 0, 1) := by decide +kernel
theorem dX2_init_5 : decode cX2_init 5 = .ok (.iconst 4, 1) := by decide +kernel
theorem dX2_init_6 : decode cX2_init 6 = .ok (.anewarray 9, 3) := by decide +kernel
theorem dX2_init_9 : decode cX2_init 9 = .ok (.putfield 11, 3) := by decide +kernel
theorem dX2_init_12 : decode cX2_init 12 = .ok (.iconst 0, 1) := by decide +kernel
theorem dX2_init_13 : decode cX2_init 13 = .ok (.istore_n 1, 1) := by decide +kernel
theorem dX2_init_14 : decode cX2_init 14 = .ok (.iload_n 1, 1) := by decide +kernel
theorem dX2_init_15 : decode cX2_init 15 = .ok (.iconst 4, 1) := by decide +kernel
theorem dX2_init_16 : decode cX2_init 16 = .ok (.if_icmp .ge 22, 3) := by decide +kernel
theorem dX2_init_19 : decode cX2_init 19 = .ok (.aload_n 0, 1) := by decide +kernel
theorem dX2_init_20 : decode cX2_init 20 = .ok (.getfield 11, 3) := by decide +kernel
theorem dX2_init_23 : decode cX2_init 23 = .ok (.iload_n 1, 1) := by decide +kernel
theorem dX2_init_24 : decode cX2_init 24 = .ok (.new 9, 3) := by decide +kernel
theorem dX2_init_27 : decode cX2_init 27 = .ok (.dup, 1) := by decide +kernel
theorem dX2_init_28 : decode cX2_init 28 = .ok (.invokespecial 17, 3) := by decide +kernel
theorem dX2_init_31 : decode cX2_init 31 = .ok (.aastore, 1) := by decide +kernel
theorem dX2_init_32 : decode cX2_init 32 = .ok (.iinc 1 1, 3) := by decide +kernel
theorem dX2_init_35 : decode cX2_init 35 = .ok (.goto (-21), 3) := by decide +kernel
theorem dX2_init_38 : decode cX2_init 38 = .ok (.return_, 1) := by decide +kernel
theorem dX2_record_0 : decode cX2_record 0 = .ok (.aload_n 0, 1) := by decide +kernel
theorem dX2_record_1 : decode cX2_record 1 = .ok (.getfield 11, 3) := by decide +kernel
theorem dX2_record_4 : decode cX2_record 4 = .ok (.aload_n 0, 1) := by decide +kernel
theorem dX2_record_5 : decode cX2_record 5 = .ok (.getfield 18, 3) := by decide +kernel
theorem dX2_record_8 : decode cX2_record 8 = .ok (.aload_n 0, 1) := by decide +kernel
theorem dX2_record_9 : decode cX2_record 9 = .ok (.getfield 22, 3) := by decide +kernel
theorem dX2_record_12 : decode cX2_record 12 = .ok (.iadd, 1) := by decide +kernel
theorem dX2_record_13 : decode cX2_record 13 = .ok (.iconst 4, 1) := by decide +kernel
theorem dX2_record_14 : decode cX2_record 14 = .ok (.irem, 1) := by decide +kernel
theorem dX2_record_15 : decode cX2_record 15 = .ok (.aaload, 1) := by decide +kernel
theorem dX2_record_16 : decode cX2_record 16 = .ok (.aload_n 1, 1) := by decide +kernel
theorem dX2_record_17 : decode cX2_record 17 = .ok (.invokevirtual 25, 3) := by decide +kernel
theorem dX2_record_20 : decode cX2_record 20 = .ok (.aload_n 0, 1) := by decide +kernel
theorem dX2_record_21 : decode cX2_record 21 = .ok (.getfield 22, 3) := by decide +kernel
theorem dX2_record_24 : decode cX2_record 24 = .ok (.iconst 4, 1) := by decide +kernel
theorem dX2_record_25 : decode cX2_record 25 = .ok (.if_icmp .ge 16, 3) := by decide +kernel
theorem dX2_record_28 : decode cX2_record 28 = .ok (.aload_n 0, 1) := by decide +kernel
theorem dX2_record_29 : decode cX2_record 29 = .ok (.dup, 1) := by decide +kernel
theorem dX2_record_30 : decode cX2_record 30 = .ok (.getfield 22, 3) := by decide +kernel
theorem dX2_record_33 : decode cX2_record 33 = .ok (.iconst 1, 1) := by decide +kernel
theorem dX2_record_34 : decode cX2_record 34 = .ok (.iadd, 1) := by decide +kernel
theorem dX2_record_35 : decode cX2_record 35 = .ok (.putfield 22, 3) := by decide +kernel
theorem dX2_record_38 : decode cX2_record 38 = .ok (.goto 15, 3) := by decide +kernel
theorem dX2_record_41 : decode cX2_record 41 = .ok (.aload_n 0, 1) := by decide +kernel
theorem dX2_record_42 : decode cX2_record 42 = .ok (.aload_n 0, 1) := by decide +kernel
theorem dX2_record_43 : decode cX2_record 43 = .ok (.getfield 18, 3) := by decide +kernel
theorem dX2_record_46 : decode cX2_record 46 = .ok (.iconst 1, 1) := by decide +kernel
theorem dX2_record_47 : decode cX2_record 47 = .ok (.iadd, 1) := by decide +kernel
theorem dX2_record_48 : decode cX2_record 48 = .ok (.iconst 4, 1) := by decide +kernel
theorem dX2_record_49 : decode cX2_record 49 = .ok (.irem, 1) := by decide +kernel
theorem dX2_record_50 : decode cX2_record 50 = .ok (.putfield 18, 3) := by decide +kernel
theorem dX2_record_53 : decode cX2_record 53 = .ok (.return_, 1) := by decide +kernel
theorem dX3_init_0 : decode cX3_init 0 = .ok (.aload_n 0, 1) := by decide +kernel
theorem dX3_init_1 : decode cX3_init 1 = .ok (.invokespecial 3, 3) := by decide +kernel
theorem dX3_init_4 : decode cX3_init 4 = .ok (.return_, 1) := by decide +kernel
theorem dX3_copyFrom_0 : decode cX3_copyFrom 0 = .ok (.aload_n 0, 1) := by decide +kernel
theorem dX3_copyFrom_1 : decode cX3_copyFrom 1 = .ok (.aload_n 1, 1) := by decide +kernel
theorem dX3_copyFrom_2 : decode cX3_copyFrom 2 = .ok (.getfield 9, 3) := by decide +kernel
theorem dX3_copyFrom_5 : decode cX3_copyFrom 5 = .ok (.putfield 9, 3) := by decide +kernel
theorem dX3_copyFrom_8 : decode cX3_copyFrom 8 = .ok (.aload_n 0, 1) := by decide +kernel
theorem dX3_copyFrom_9 : decode cX3_copyFrom 9 = .ok (.aload_n 1, 1) := by decide +kernel
theorem dX3_copyFrom_10 : decode cX3_copyFrom 10 = .ok (.getfield 15, 3) := by decide +kernel
theorem dX3_copyFrom_13 : decode cX3_copyFrom 13 = .ok (.putfield 15, 3) := by decide +kernel
theorem dX3_copyFrom_16 : decode cX3_copyFrom 16 = .ok (.aload_n 0, 1) := by decide +kernel
theorem dX3_copyFrom_17 : decode cX3_copyFrom 17 = .ok (.aload_n 1, 1) := by decide +kernel
theorem dX3_copyFrom_18 : decode cX3_copyFrom 18 = .ok (.getfield 18, 3) := by decide +kernel
theorem dX3_copyFrom_21 : decode cX3_copyFrom 21 = .ok (.putfield 18, 3) := by decide +kernel
theorem dX3_copyFrom_24 : decode cX3_copyFrom 24 = .ok (.aload_n 0, 1) := by decide +kernel
theorem dX3_copyFrom_25 : decode cX3_copyFrom 25 = .ok (.aload_n 1, 1) := by decide +kernel
theorem dX3_copyFrom_26 : decode cX3_copyFrom 26 = .ok (.getfield 21, 3) := by decide +kernel
theorem dX3_copyFrom_29 : decode cX3_copyFrom 29 = .ok (.putfield 21, 3) := by decide +kernel
theorem dX3_copyFrom_32 : decode cX3_copyFrom 32 = .ok (.aload_n 0, 1) := by decide +kernel
theorem dX3_copyFrom_33 : decode cX3_copyFrom 33 = .ok (.aload_n 1, 1) := by decide +kernel
theorem dX3_copyFrom_34 : decode cX3_copyFrom 34 = .ok (.getfield 24, 3) := by decide +kernel
theorem dX3_copyFrom_37 : decode cX3_copyFrom 37 = .ok (.putfield 24, 3) := by decide +kernel
theorem dX3_copyFrom_40 : decode cX3_copyFrom 40 = .ok (.aload_n 0, 1) := by decide +kernel
theorem dX3_copyFrom_41 : decode cX3_copyFrom 41 = .ok (.aload_n 1, 1) := by decide +kernel
theorem dX3_copyFrom_42 : decode cX3_copyFrom 42 = .ok (.getfield 28, 3) := by decide +kernel
theorem dX3_copyFrom_45 : decode cX3_copyFrom 45 = .ok (.putfield 28, 3) := by decide +kernel
theorem dX3_copyFrom_48 : decode cX3_copyFrom 48 = .ok (.aload_n 0, 1) := by decide +kernel
theorem dX3_copyFrom_49 : decode cX3_copyFrom 49 = .ok (.aload_n 1, 1) := by decide +kernel
theorem dX3_copyFrom_50 : decode cX3_copyFrom 50 = .ok (.getfield 31, 3) := by decide +kernel
theorem dX3_copyFrom_53 : decode cX3_copyFrom 53 = .ok (.putfield 31, 3) := by decide +kernel
theorem dX3_copyFrom_56 : decode cX3_copyFrom 56 = .ok (.aload_n 0, 1) := by decide +kernel
theorem dX3_copyFrom_57 : decode cX3_copyFrom 57 = .ok (.aload_n 1, 1) := by decide +kernel
theorem dX3_copyFrom_58 : decode cX3_copyFrom 58 = .ok (.getfield 34, 3) := by decide +kernel
theorem dX3_copyFrom_61 : decode cX3_copyFrom 61 = .ok (.putfield 34, 3) := by decide +kernel
theorem dX3_copyFrom_64 : decode cX3_copyFrom 64 = .ok (.return_, 1) := by decide +kernel
theorem dX3_finish_0 : decode cX3_finish 0 = .ok (.aload_n 0, 1) := by decide +kernel
theorem dX3_finish_1 : decode cX3_finish 1 = .ok (.iload_n 1, 1) := by decide +kernel
theorem dX3_finish_2 : decode cX3_finish 2 = .ok (.putfield 34, 3) := by decide +kernel
theorem dX3_finish_5 : decode cX3_finish 5 = .ok (.aload_n 0, 1) := by decide +kernel
theorem dX3_finish_6 : decode cX3_finish 6 = .ok (.iconst 1, 1) := by decide +kernel
theorem dX3_finish_7 : decode cX3_finish 7 = .ok (.putfield 24, 3) := by decide +kernel
theorem dX3_finish_10 : decode cX3_finish 10 = .ok (.return_, 1) := by decide +kernel
theorem dX3_urgency_0 : decode cX3_urgency 0 = .ok (.aload_n 0, 1) := by decide +kernel
theorem dX3_urgency_1 : decode cX3_urgency 1 = .ok (.getfield 9, 3) := by decide +kernel
theorem dX3_urgency_4 : decode cX3_urgency 4 = .ok (.tableswitch 93 1 3 #[28, 57, 75], 28) := by decide +kernel
theorem dX3_urgency_32 : decode cX3_urgency 32 = .ok (.aload_n 1, 1) := by decide +kernel
theorem dX3_urgency_33 : decode cX3_urgency 33 = .ok (.getfield 37, 3) := by decide +kernel
theorem dX3_urgency_36 : decode cX3_urgency 36 = .ok (.aload_n 0, 1) := by decide +kernel
theorem dX3_urgency_37 : decode cX3_urgency 37 = .ok (.getfield 18, 3) := by decide +kernel
theorem dX3_urgency_40 : decode cX3_urgency 40 = .ok (.if_icmp .ge 19, 3) := by decide +kernel
theorem dX3_urgency_43 : decode cX3_urgency 43 = .ok (.aload_n 1, 1) := by decide +kernel
theorem dX3_urgency_44 : decode cX3_urgency 44 = .ok (.getfield 42, 3) := by decide +kernel
theorem dX3_urgency_47 : decode cX3_urgency 47 = .ok (.aload_n 0, 1) := by decide +kernel
theorem dX3_urgency_48 : decode cX3_urgency 48 = .ok (.getfield 18, 3) := by decide +kernel
theorem dX3_urgency_51 : decode cX3_urgency 51 = .ok (.if_icmp .lt 8, 3) := by decide +kernel
theorem dX3_urgency_54 : decode cX3_urgency 54 = .ok (.bipush 100, 2) := by decide +kernel
theorem dX3_urgency_56 : decode cX3_urgency 56 = .ok (.goto 4, 3) := by decide +kernel
theorem dX3_urgency_59 : decode cX3_urgency 59 = .ok (.iconst 0, 1) := by decide +kernel
theorem dX3_urgency_60 : decode cX3_urgency 60 = .ok (.ireturn, 1) := by decide +kernel
theorem dX3_urgency_61 : decode cX3_urgency 61 = .ok (.aload_n 1, 1) := by decide +kernel
theorem dX3_urgency_62 : decode cX3_urgency 62 = .ok (.getfield 37, 3) := by decide +kernel
theorem dX3_urgency_65 : decode cX3_urgency 65 = .ok (.aload_n 0, 1) := by decide +kernel
theorem dX3_urgency_66 : decode cX3_urgency 66 = .ok (.getfield 31, 3) := by decide +kernel
theorem dX3_urgency_69 : decode cX3_urgency 69 = .ok (.if_icmp .ge 8, 3) := by decide +kernel
theorem dX3_urgency_72 : decode cX3_urgency 72 = .ok (.bipush 100, 2) := by decide +kernel
theorem dX3_urgency_74 : decode cX3_urgency 74 = .ok (.goto 4, 3) := by decide +kernel
theorem dX3_urgency_77 : decode cX3_urgency 77 = .ok (.iconst 0, 1) := by decide +kernel
theorem dX3_urgency_78 : decode cX3_urgency 78 = .ok (.ireturn, 1) := by decide +kernel
theorem dX3_urgency_79 : decode cX3_urgency 79 = .ok (.aload_n 1, 1) := by decide +kernel
theorem dX3_urgency_80 : decode cX3_urgency 80 = .ok (.getfield 42, 3) := by decide +kernel
theorem dX3_urgency_83 : decode cX3_urgency 83 = .ok (.aload_n 0, 1) := by decide +kernel
theorem dX3_urgency_84 : decode cX3_urgency 84 = .ok (.getfield 28, 3) := by decide +kernel
theorem dX3_urgency_87 : decode cX3_urgency 87 = .ok (.if_icmp .le 8, 3) := by decide +kernel
theorem dX3_urgency_90 : decode cX3_urgency 90 = .ok (.bipush 100, 2) := by decide +kernel
theorem dX3_urgency_92 : decode cX3_urgency 92 = .ok (.goto 4, 3) := by decide +kernel
theorem dX3_urgency_95 : decode cX3_urgency 95 = .ok (.iconst 0, 1) := by decide +kernel
theorem dX3_urgency_96 : decode cX3_urgency 96 = .ok (.ireturn, 1) := by decide +kernel
theorem dX3_urgency_97 : decode cX3_urgency 97 = .ok (.aload_n 1, 1) := by decide +kernel
theorem dX3_urgency_98 : decode cX3_urgency 98 = .ok (.getfield 42, 3) := by decide +kernel
theorem dX3_urgency_101 : decode cX3_urgency 101 = .ok (.aload_n 1, 1) := by decide +kernel
theorem dX3_urgency_102 : decode cX3_urgency 102 = .ok (.getfield 37, 3) := by decide +kernel
theorem dX3_urgency_105 : decode cX3_urgency 105 = .ok (.isub, 1) := by decide +kernel
theorem dX3_urgency_106 : decode cX3_urgency 106 = .ok (.ireturn, 1) := by decide +kernel
theorem dX4_init_0 : decode cX4_init 0 = .ok (.aload_n 0, 1) := by decide +kernel
theorem dX4_init_1 : decode cX4_init 1 = .ok (.invokespecial 3, 3) := by decide +kernel
theorem dX4_init_4 : decode cX4_init 4 = .ok (.aload_n 0, 1) := by decide +kernel
theorem dX4_init_5 : decode cX4_init 5 = .ok (.bipush 8, 2) := by decide +kernel
theorem dX4_init_7 : decode cX4_init 7 = .ok (.anewarray 9, 3) := by decide +kernel
theorem dX4_init_10 : decode cX4_init 10 = .ok (.putfield 11, 3) := by decide +kernel
theorem dX4_init_13 : decode cX4_init 13 = .ok (.aload_n 0, 1) := by decide +kernel
theorem dX4_init_14 : decode cX4_init 14 = .ok (.bipush 6, 2) := by decide +kernel
theorem dX4_init_16 : decode cX4_init 16 = .ok (.anewarray 17, 3) := by decide +kernel
theorem dX4_init_19 : decode cX4_init 19 = .ok (.putfield 19, 3) := by decide +kernel
theorem dX4_init_22 : decode cX4_init 22 = .ok (.iconst 0, 1) := by decide +kernel
theorem dX4_init_23 : decode cX4_init 23 = .ok (.istore_n 1, 1) := by decide +kernel
theorem dX4_init_24 : decode cX4_init 24 = .ok (.iload_n 1, 1) := by decide +kernel
theorem dX4_init_25 : decode cX4_init 25 = .ok (.bipush 8, 2) := by decide +kernel
theorem dX4_init_27 : decode cX4_init 27 = .ok (.if_icmp .ge 22, 3) := by decide +kernel
theorem dX4_init_30 : decode cX4_init 30 = .ok (.aload_n 0, 1) := by decide +kernel
theorem dX4_init_31 : decode cX4_init 31 = .ok (.getfield 11, 3) := by decide +kernel
theorem dX4_init_34 : decode cX4_init 34 = .ok (.iload_n 1, 1) := by decide +kernel
theorem dX4_init_35 : decode cX4_init 35 = .ok (.new 9, 3) := by decide +kernel
theorem dX4_init_38 : decode cX4_init 38 = .ok (.dup, 1) := by decide +kernel
theorem dX4_init_39 : decode cX4_init 39 = .ok (.invokespecial 23, 3) := by decide +kernel
theorem dX4_init_42 : decode cX4_init 42 = .ok (.aastore, 1) := by decide +kernel
theorem dX4_init_43 : decode cX4_init 43 = .ok (.iinc 1 1, 3) := by decide +kernel
theorem dX4_init_46 : decode cX4_init 46 = .ok (.goto (-22), 3) := by decide +kernel
theorem dX4_init_49 : decode cX4_init 49 = .ok (.iconst 0, 1) := by decide +kernel
theorem dX4_init_50 : decode cX4_init 50 = .ok (.istore_n 1, 1) := by decide +kernel
theorem dX4_init_51 : decode cX4_init 51 = .ok (.iload_n 1, 1) := by decide +kernel
theorem dX4_init_52 : decode cX4_init 52 = .ok (.bipush 6, 2) := by decide +kernel
theorem dX4_init_54 : decode cX4_init 54 = .ok (.if_icmp .ge 22, 3) := by decide +kernel
theorem dX4_init_57 : decode cX4_init 57 = .ok (.aload_n 0, 1) := by decide +kernel
theorem dX4_init_58 : decode cX4_init 58 = .ok (.getfield 19, 3) := by decide +kernel
theorem dX4_init_61 : decode cX4_init 61 = .ok (.iload_n 1, 1) := by decide +kernel
theorem dX4_init_62 : decode cX4_init 62 = .ok (.new 17, 3) := by decide +kernel
theorem dX4_init_65 : decode cX4_init 65 = .ok (.dup, 1) := by decide +kernel
theorem dX4_init_66 : decode cX4_init 66 = .ok (.invokespecial 24, 3) := by decide +kernel
theorem dX4_init_69 : decode cX4_init 69 = .ok (.aastore, 1) := by decide +kernel
theorem dX4_init_70 : decode cX4_init 70 = .ok (.iinc 1 1, 3) := by decide +kernel
theorem dX4_init_73 : decode cX4_init 73 = .ok (.goto (-22), 3) := by decide +kernel
theorem dX4_init_76 : decode cX4_init 76 = .ok (.return_, 1) := by decide +kernel
theorem dX4_copyFrom_0 : decode cX4_copyFrom 0 = .ok (.iconst 0, 1) := by decide +kernel
theorem dX4_copyFrom_1 : decode cX4_copyFrom 1 = .ok (.istore_n 2, 1) := by decide +kernel
theorem dX4_copyFrom_2 : decode cX4_copyFrom 2 = .ok (.iload_n 2, 1) := by decide +kernel
theorem dX4_copyFrom_3 : decode cX4_copyFrom 3 = .ok (.aload_n 1, 1) := by decide +kernel
theorem dX4_copyFrom_4 : decode cX4_copyFrom 4 = .ok (.getfield 25, 3) := by decide +kernel
theorem dX4_copyFrom_7 : decode cX4_copyFrom 7 = .ok (.if_icmp .ge 24, 3) := by decide +kernel
theorem dX4_copyFrom_10 : decode cX4_copyFrom 10 = .ok (.aload_n 0, 1) := by decide +kernel
theorem dX4_copyFrom_11 : decode cX4_copyFrom 11 = .ok (.getfield 11, 3) := by decide +kernel
theorem dX4_copyFrom_14 : decode cX4_copyFrom 14 = .ok (.iload_n 2, 1) := by decide +kernel
theorem dX4_copyFrom_15 : decode cX4_copyFrom 15 = .ok (.aaload, 1) := by decide +kernel
theorem dX4_copyFrom_16 : decode cX4_copyFrom 16 = .ok (.aload_n 1, 1) := by decide +kernel
theorem dX4_copyFrom_17 : decode cX4_copyFrom 17 = .ok (.getfield 11, 3) := by decide +kernel
theorem dX4_copyFrom_20 : decode cX4_copyFrom 20 = .ok (.iload_n 2, 1) := by decide +kernel
theorem dX4_copyFrom_21 : decode cX4_copyFrom 21 = .ok (.aaload, 1) := by decide +kernel
theorem dX4_copyFrom_22 : decode cX4_copyFrom 22 = .ok (.invokevirtual 29, 3) := by decide +kernel
theorem dX4_copyFrom_25 : decode cX4_copyFrom 25 = .ok (.iinc 2 1, 3) := by decide +kernel
theorem dX4_copyFrom_28 : decode cX4_copyFrom 28 = .ok (.goto (-26), 3) := by decide +kernel
theorem dX4_copyFrom_31 : decode cX4_copyFrom 31 = .ok (.iconst 0, 1) := by decide +kernel
theorem dX4_copyFrom_32 : decode cX4_copyFrom 32 = .ok (.istore_n 2, 1) := by decide +kernel
theorem dX4_copyFrom_33 : decode cX4_copyFrom 33 = .ok (.iload_n 2, 1) := by decide +kernel
theorem dX4_copyFrom_34 : decode cX4_copyFrom 34 = .ok (.aload_n 1, 1) := by decide +kernel
theorem dX4_copyFrom_35 : decode cX4_copyFrom 35 = .ok (.getfield 33, 3) := by decide +kernel
theorem dX4_copyFrom_38 : decode cX4_copyFrom 38 = .ok (.if_icmp .ge 24, 3) := by decide +kernel
theorem dX4_copyFrom_41 : decode cX4_copyFrom 41 = .ok (.aload_n 0, 1) := by decide +kernel
theorem dX4_copyFrom_42 : decode cX4_copyFrom 42 = .ok (.getfield 19, 3) := by decide +kernel
theorem dX4_copyFrom_45 : decode cX4_copyFrom 45 = .ok (.iload_n 2, 1) := by decide +kernel
theorem dX4_copyFrom_46 : decode cX4_copyFrom 46 = .ok (.aaload, 1) := by decide +kernel
theorem dX4_copyFrom_47 : decode cX4_copyFrom 47 = .ok (.aload_n 1, 1) := by decide +kernel
theorem dX4_copyFrom_48 : decode cX4_copyFrom 48 = .ok (.getfield 19, 3) := by decide +kernel
theorem dX4_copyFrom_51 : decode cX4_copyFrom 51 = .ok (.iload_n 2, 1) := by decide +kernel
theorem dX4_copyFrom_52 : decode cX4_copyFrom 52 = .ok (.aaload, 1) := by decide +kernel
theorem dX4_copyFrom_53 : decode cX4_copyFrom 53 = .ok (.invokevirtual 36, 3) := by decide +kernel
theorem dX4_copyFrom_56 : decode cX4_copyFrom 56 = .ok (.iinc 2 1, 3) := by decide +kernel
theorem dX4_copyFrom_59 : decode cX4_copyFrom 59 = .ok (.goto (-26), 3) := by decide +kernel
theorem dX4_copyFrom_62 : decode cX4_copyFrom 62 = .ok (.aload_n 0, 1) := by decide +kernel
theorem dX4_copyFrom_63 : decode cX4_copyFrom 63 = .ok (.aload_n 1, 1) := by decide +kernel
theorem dX4_copyFrom_64 : decode cX4_copyFrom 64 = .ok (.getfield 25, 3) := by decide +kernel
theorem dX4_copyFrom_67 : decode cX4_copyFrom 67 = .ok (.putfield 25, 3) := by decide +kernel
theorem dX4_copyFrom_70 : decode cX4_copyFrom 70 = .ok (.aload_n 0, 1) := by decide +kernel
theorem dX4_copyFrom_71 : decode cX4_copyFrom 71 = .ok (.aload_n 1, 1) := by decide +kernel
theorem dX4_copyFrom_72 : decode cX4_copyFrom 72 = .ok (.getfield 33, 3) := by decide +kernel
theorem dX4_copyFrom_75 : decode cX4_copyFrom 75 = .ok (.putfield 33, 3) := by decide +kernel
theorem dX4_copyFrom_78 : decode cX4_copyFrom 78 = .ok (.aload_n 0, 1) := by decide +kernel
theorem dX4_copyFrom_79 : decode cX4_copyFrom 79 = .ok (.aload_n 1, 1) := by decide +kernel
theorem dX4_copyFrom_80 : decode cX4_copyFrom 80 = .ok (.getfield 39, 3) := by decide +kernel
theorem dX4_copyFrom_83 : decode cX4_copyFrom 83 = .ok (.putfield 39, 3) := by decide +kernel
theorem dX4_copyFrom_86 : decode cX4_copyFrom 86 = .ok (.aload_n 0, 1) := by decide +kernel
theorem dX4_copyFrom_87 : decode cX4_copyFrom 87 = .ok (.aload_n 1, 1) := by decide +kernel
theorem dX4_copyFrom_88 : decode cX4_copyFrom 88 = .ok (.getfield 42, 3) := by decide +kernel
theorem dX4_copyFrom_91 : decode cX4_copyFrom 91 = .ok (.putfield 42, 3) := by decide +kernel
theorem dX4_copyFrom_94 : decode cX4_copyFrom 94 = .ok (.return_, 1) := by decide +kernel
theorem dX4_hasBlock_0 : decode cX4_hasBlock 0 = .ok (.iload_n 1, 1) := by decide +kernel
theorem dX4_hasBlock_1 : decode cX4_hasBlock 1 = .ok (.iconst 0, 1) := by decide +kernel
theorem dX4_hasBlock_2 : decode cX4_hasBlock 2 = .ok (.aload_n 0, 1) := by decide +kernel
theorem dX4_hasBlock_3 : decode cX4_hasBlock 3 = .ok (.getfield 25, 3) := by decide +kernel
theorem dX4_hasBlock_6 : decode cX4_hasBlock 6 = .ok (.iconst 1, 1) := by decide +kernel
theorem dX4_hasBlock_7 : decode cX4_hasBlock 7 = .ok (.isub, 1) := by decide +kernel
theorem dX4_hasBlock_8 : decode cX4_hasBlock 8 = .ok (.invokestatic 45, 3) := by decide +kernel
theorem dX4_hasBlock_11 : decode cX4_hasBlock 11 = .ok (.ireturn, 1) := by decide +kernel
theorem dX4_hasRow_0 : decode cX4_hasRow 0 = .ok (.aload_n 0, 1) := by decide +kernel
theorem dX4_hasRow_1 : decode cX4_hasRow 1 = .ok (.iload_n 1, 1) := by decide +kernel
theorem dX4_hasRow_2 : decode cX4_hasRow 2 = .ok (.invokevirtual 49, 3) := by decide +kernel
theorem dX4_hasRow_5 : decode cX4_hasRow 5 = .ok (.ifCond .eq 26, 3) := by decide +kernel
theorem dX4_hasRow_8 : decode cX4_hasRow 8 = .ok (.iload_n 2, 1) := by decide +kernel
theorem dX4_hasRow_9 : decode cX4_hasRow 9 = .ok (.iconst 0, 1) := by decide +kernel
theorem dX4_hasRow_10 : decode cX4_hasRow 10 = .ok (.aload_n 0, 1) := by decide +kernel
theorem dX4_hasRow_11 : decode cX4_hasRow 11 = .ok (.getfield 11, 3) := by decide +kernel
theorem dX4_hasRow_14 : decode cX4_hasRow 14 = .ok (.iload_n 1, 1) := by decide +kernel
theorem dX4_hasRow_15 : decode cX4_hasRow 15 = .ok (.aaload, 1) := by decide +kernel
theorem dX4_hasRow_16 : decode cX4_hasRow 16 = .ok (.getfield 53, 3) := by decide +kernel
theorem dX4_hasRow_19 : decode cX4_hasRow 19 = .ok (.iconst 1, 1) := by decide +kernel
theorem dX4_hasRow_20 : decode cX4_hasRow 20 = .ok (.isub, 1) := by decide +kernel
theorem dX4_hasRow_21 : decode cX4_hasRow 21 = .ok (.invokestatic 45, 3) := by decide +kernel
theorem dX4_hasRow_24 : decode cX4_hasRow 24 = .ok (.ifCond .eq 7, 3) := by decide +kernel
theorem dX4_hasRow_27 : decode cX4_hasRow 27 = .ok (.iconst 1, 1) := by decide +kernel
theorem dX4_hasRow_28 : decode cX4_hasRow 28 = .ok (.goto 4, 3) := by decide +kernel
theorem dX4_hasRow_31 : decode cX4_hasRow 31 = .ok (.iconst 0, 1) := by decide +kernel
theorem dX4_hasRow_32 : decode cX4_hasRow 32 = .ok (.ireturn, 1) := by decide +kernel
theorem dX4_hasQuestion_0 : decode cX4_hasQuestion 0 = .ok (.iload_n 1, 1) := by decide +kernel
theorem dX4_hasQuestion_1 : decode cX4_hasQuestion 1 = .ok (.iconst 0, 1) := by decide +kernel
theorem dX4_hasQuestion_2 : decode cX4_hasQuestion 2 = .ok (.aload_n 0, 1) := by decide +kernel
theorem dX4_hasQuestion_3 : decode cX4_hasQuestion 3 = .ok (.getfield 33, 3) := by decide +kernel
theorem dX4_hasQuestion_6 : decode cX4_hasQuestion 6 = .ok (.iconst 1, 1) := by decide +kernel
theorem dX4_hasQuestion_7 : decode cX4_hasQuestion 7 = .ok (.isub, 1) := by decide +kernel
theorem dX4_hasQuestion_8 : decode cX4_hasQuestion 8 = .ok (.invokestatic 45, 3) := by decide +kernel
theorem dX4_hasQuestion_11 : decode cX4_hasQuestion 11 = .ok (.ireturn, 1) := by decide +kernel
theorem dX4_appendBlock_0 : decode cX4_appendBlock 0 = .ok (.aload_n 0, 1) := by decide +kernel
theorem dX4_appendBlock_1 : decode cX4_appendBlock 1 = .ok (.getfield 25, 3) := by decide +kernel
theorem dX4_appendBlock_4 : decode cX4_appendBlock 4 = .ok (.bipush 8, 2) := by decide +kernel
theorem dX4_appendBlock_6 : decode cX4_appendBlock 6 = .ok (.if_icmp .lt 6, 3) := by decide +kernel
theorem dX4_appendBlock_9 : decode cX4_appendBlock 9 = .ok (.bipush (-3), 2) := by decide +kernel
theorem dX4_appendBlock_11 : decode cX4_appendBlock 11 = .ok (.ireturn, 1) := by decide +kernel
theorem dX4_appendBlock_12 : decode cX4_appendBlock 12 = .ok (.aload_n 0, 1) := by decide +kernel
theorem dX4_appendBlock_13 : decode cX4_appendBlock 13 = .ok (.getfield 11, 3) := by decide +kernel
theorem dX4_appendBlock_16 : decode cX4_appendBlock 16 = .ok (.aload_n 0, 1) := by decide +kernel
theorem dX4_appendBlock_17 : decode cX4_appendBlock 17 = .ok (.getfield 25, 3) := by decide +kernel
theorem dX4_appendBlock_20 : decode cX4_appendBlock 20 = .ok (.aaload, 1) := by decide +kernel
theorem dX4_appendBlock_21 : decode cX4_appendBlock 21 = .ok (.aload_n 1, 1) := by decide +kernel
theorem dX4_appendBlock_22 : decode cX4_appendBlock 22 = .ok (.invokevirtual 56, 3) := by decide +kernel
theorem dX4_appendBlock_25 : decode cX4_appendBlock 25 = .ok (.aload_n 0, 1) := by decide +kernel
theorem dX4_appendBlock_26 : decode cX4_appendBlock 26 = .ok (.dup, 1) := by decide +kernel
theorem dX4_appendBlock_27 : decode cX4_appendBlock 27 = .ok (.getfield 25, 3) := by decide +kernel
theorem dX4_appendBlock_30 : decode cX4_appendBlock 30 = .ok (.iconst 1, 1) := by decide +kernel
theorem dX4_appendBlock_31 : decode cX4_appendBlock 31 = .ok (.iadd, 1) := by decide +kernel
theorem dX4_appendBlock_32 : decode cX4_appendBlock 32 = .ok (.putfield 25, 3) := by decide +kernel
theorem dX4_appendBlock_35 : decode cX4_appendBlock 35 = .ok (.aload_n 0, 1) := by decide +kernel
theorem dX4_appendBlock_36 : decode cX4_appendBlock 36 = .ok (.getfield 25, 3) := by decide +kernel
theorem dX4_appendBlock_39 : decode cX4_appendBlock 39 = .ok (.iconst 1, 1) := by decide +kernel
theorem dX4_appendBlock_40 : decode cX4_appendBlock 40 = .ok (.isub, 1) := by decide +kernel
theorem dX4_appendBlock_41 : decode cX4_appendBlock 41 = .ok (.ireturn, 1) := by decide +kernel
theorem dX4_appendQuestion_0 : decode cX4_appendQuestion 0 = .ok (.aload_n 0, 1) := by decide +kernel
theorem dX4_appendQuestion_1 : decode cX4_appendQuestion 1 = .ok (.getfield 33, 3) := by decide +kernel
theorem dX4_appendQuestion_4 : decode cX4_appendQuestion 4 = .ok (.bipush 6, 2) := by decide +kernel
theorem dX4_appendQuestion_6 : decode cX4_appendQuestion 6 = .ok (.if_icmp .lt 6, 3) := by decide +kernel
theorem dX4_appendQuestion_9 : decode cX4_appendQuestion 9 = .ok (.bipush (-3), 2) := by decide +kernel
theorem dX4_appendQuestion_11 : decode cX4_appendQuestion 11 = .ok (.ireturn, 1) := by decide +kernel
theorem dX4_appendQuestion_12 : decode cX4_appendQuestion 12 = .ok (.aload_n 0, 1) := by decide +kernel
theorem dX4_appendQuestion_13 : decode cX4_appendQuestion 13 = .ok (.getfield 19, 3) := by decide +kernel
theorem dX4_appendQuestion_16 : decode cX4_appendQuestion 16 = .ok (.aload_n 0, 1) := by decide +kernel
theorem dX4_appendQuestion_17 : decode cX4_appendQuestion 17 = .ok (.getfield 33, 3) := by decide +kernel
theorem dX4_appendQuestion_20 : decode cX4_appendQuestion 20 = .ok (.aaload, 1) := by decide +kernel
theorem dX4_appendQuestion_21 : decode cX4_appendQuestion 21 = .ok (.astore 5, 2) := by decide +kernel
theorem dX4_appendQuestion_23 : decode cX4_appendQuestion 23 = .ok (.aload 5, 2) := by decide +kernel
theorem dX4_appendQuestion_25 : decode cX4_appendQuestion 25 = .ok (.iload_n 1, 1) := by decide +kernel
theorem dX4_appendQuestion_26 : decode cX4_appendQuestion 26 = .ok (.putfield 60, 3) := by decide +kernel
theorem dX4_appendQuestion_29 : decode cX4_appendQuestion 29 = .ok (.aload 5, 2) := by decide +kernel
theorem dX4_appendQuestion_31 : decode cX4_appendQuestion 31 = .ok (.iload_n 2, 1) := by decide +kernel
theorem dX4_appendQuestion_32 : decode cX4_appendQuestion 32 = .ok (.putfield 63, 3) := by decide +kernel
theorem dX4_appendQuestion_35 : decode cX4_appendQuestion 35 = .ok (.aload 5, 2) := by decide +kernel
theorem dX4_appendQuestion_37 : decode cX4_appendQuestion 37 = .ok (.iload_n 3, 1) := by decide +kernel
theorem dX4_appendQuestion_38 : decode cX4_appendQuestion 38 = .ok (.putfield 66, 3) := by decide +kernel
theorem dX4_appendQuestion_41 : decode cX4_appendQuestion 41 = .ok (.aload 5, 2) := by decide +kernel
theorem dX4_appendQuestion_43 : decode cX4_appendQuestion 43 = .ok (.iload 4, 2) := by decide +kernel
theorem dX4_appendQuestion_45 : decode cX4_appendQuestion 45 = .ok (.putfield 69, 3) := by decide +kernel
theorem dX4_appendQuestion_48 : decode cX4_appendQuestion 48 = .ok (.aload 5, 2) := by decide +kernel
theorem dX4_appendQuestion_50 : decode cX4_appendQuestion 50 = .ok (.iconst 0, 1) := by decide +kernel
theorem dX4_appendQuestion_51 : decode cX4_appendQuestion 51 = .ok (.putfield 72, 3) := by decide +kernel
theorem dX4_appendQuestion_54 : decode cX4_appendQuestion 54 = .ok (.aload_n 0, 1) := by decide +kernel
theorem dX4_appendQuestion_55 : decode cX4_appendQuestion 55 = .ok (.dup, 1) := by decide +kernel
theorem dX4_appendQuestion_56 : decode cX4_appendQuestion 56 = .ok (.getfield 33, 3) := by decide +kernel
theorem dX4_appendQuestion_59 : decode cX4_appendQuestion 59 = .ok (.iconst 1, 1) := by decide +kernel
theorem dX4_appendQuestion_60 : decode cX4_appendQuestion 60 = .ok (.iadd, 1) := by decide +kernel
theorem dX4_appendQuestion_61 : decode cX4_appendQuestion 61 = .ok (.putfield 33, 3) := by decide +kernel
theorem dX4_appendQuestion_64 : decode cX4_appendQuestion 64 = .ok (.aload_n 0, 1) := by decide +kernel
theorem dX4_appendQuestion_65 : decode cX4_appendQuestion 65 = .ok (.getfield 33, 3) := by decide +kernel
theorem dX4_appendQuestion_68 : decode cX4_appendQuestion 68 = .ok (.iconst 1, 1) := by decide +kernel
theorem dX4_appendQuestion_69 : decode cX4_appendQuestion 69 = .ok (.isub, 1) := by decide +kernel
theorem dX4_appendQuestion_70 : decode cX4_appendQuestion 70 = .ok (.ireturn, 1) := by decide +kernel
theorem dX4_rows_0 : decode cX4_rows 0 = .ok (.iconst 0, 1) := by decide +kernel
theorem dX4_rows_1 : decode cX4_rows 1 = .ok (.istore_n 2, 1) := by decide +kernel
theorem dX4_rows_2 : decode cX4_rows 2 = .ok (.iconst 0, 1) := by decide +kernel
theorem dX4_rows_3 : decode cX4_rows 3 = .ok (.istore_n 3, 1) := by decide +kernel
theorem dX4_rows_4 : decode cX4_rows 4 = .ok (.iload_n 3, 1) := by decide +kernel
theorem dX4_rows_5 : decode cX4_rows 5 = .ok (.aload_n 0, 1) := by decide +kernel
theorem dX4_rows_6 : decode cX4_rows 6 = .ok (.getfield 25, 3) := by decide +kernel
theorem dX4_rows_9 : decode cX4_rows 9 = .ok (.if_icmp .ge 37, 3) := by decide +kernel
theorem dX4_rows_12 : decode cX4_rows 12 = .ok (.iload_n 1, 1) := by decide +kernel
theorem dX4_rows_13 : decode cX4_rows 13 = .ok (.aload_n 0, 1) := by decide +kernel
theorem dX4_rows_14 : decode cX4_rows 14 = .ok (.getfield 11, 3) := by decide +kernel
theorem dX4_rows_17 : decode cX4_rows 17 = .ok (.iload_n 3, 1) := by decide +kernel
theorem dX4_rows_18 : decode cX4_rows 18 = .ok (.aaload, 1) := by decide +kernel
theorem dX4_rows_19 : decode cX4_rows 19 = .ok (.getfield 83, 3) := by decide +kernel
theorem dX4_rows_22 : decode cX4_rows 22 = .ok (.invokestatic 86, 3) := by decide +kernel
theorem dX4_rows_25 : decode cX4_rows 25 = .ok (.ifCond .eq 15, 3) := by decide +kernel
theorem dX4_rows_28 : decode cX4_rows 28 = .ok (.iload_n 2, 1) := by decide +kernel
theorem dX4_rows_29 : decode cX4_rows 29 = .ok (.aload_n 0, 1) := by decide +kernel
theorem dX4_rows_30 : decode cX4_rows 30 = .ok (.getfield 11, 3) := by decide +kernel
theorem dX4_rows_33 : decode cX4_rows 33 = .ok (.iload_n 3, 1) := by decide +kernel
theorem dX4_rows_34 : decode cX4_rows 34 = .ok (.aaload, 1) := by decide +kernel
theorem dX4_rows_35 : decode cX4_rows 35 = .ok (.getfield 53, 3) := by decide +kernel
theorem dX4_rows_38 : decode cX4_rows 38 = .ok (.iadd, 1) := by decide +kernel
theorem dX4_rows_39 : decode cX4_rows 39 = .ok (.istore_n 2, 1) := by decide +kernel
theorem dX4_rows_40 : decode cX4_rows 40 = .ok (.iinc 3 1, 3) := by decide +kernel
theorem dX4_rows_43 : decode cX4_rows 43 = .ok (.goto (-39), 3) := by decide +kernel
theorem dX4_rows_46 : decode cX4_rows 46 = .ok (.iload_n 2, 1) := by decide +kernel
theorem dX4_rows_47 : decode cX4_rows 47 = .ok (.ireturn, 1) := by decide +kernel
theorem dX4_readRows_0 : decode cX4_readRows 0 = .ok (.iconst 0, 1) := by decide +kernel
theorem dX4_readRows_1 : decode cX4_readRows 1 = .ok (.istore_n 2, 1) := by decide +kernel
theorem dX4_readRows_2 : decode cX4_readRows 2 = .ok (.iconst 0, 1) := by decide +kernel
theorem dX4_readRows_3 : decode cX4_readRows 3 = .ok (.istore_n 3, 1) := by decide +kernel
theorem dX4_readRows_4 : decode cX4_readRows 4 = .ok (.iload_n 3, 1) := by decide +kernel
theorem dX4_readRows_5 : decode cX4_readRows 5 = .ok (.aload_n 0, 1) := by decide +kernel
theorem dX4_readRows_6 : decode cX4_readRows 6 = .ok (.getfield 25, 3) := by decide +kernel
theorem dX4_readRows_9 : decode cX4_readRows 9 = .ok (.if_icmp .ge 37, 3) := by decide +kernel
theorem dX4_readRows_12 : decode cX4_readRows 12 = .ok (.iload_n 1, 1) := by decide +kernel
theorem dX4_readRows_13 : decode cX4_readRows 13 = .ok (.aload_n 0, 1) := by decide +kernel
theorem dX4_readRows_14 : decode cX4_readRows 14 = .ok (.getfield 11, 3) := by decide +kernel
theorem dX4_readRows_17 : decode cX4_readRows 17 = .ok (.iload_n 3, 1) := by decide +kernel
theorem dX4_readRows_18 : decode cX4_readRows 18 = .ok (.aaload, 1) := by decide +kernel
theorem dX4_readRows_19 : decode cX4_readRows 19 = .ok (.getfield 83, 3) := by decide +kernel
theorem dX4_readRows_22 : decode cX4_readRows 22 = .ok (.invokestatic 86, 3) := by decide +kernel
theorem dX4_readRows_25 : decode cX4_readRows 25 = .ok (.ifCond .eq 15, 3) := by decide +kernel
theorem dX4_readRows_28 : decode cX4_readRows 28 = .ok (.iload_n 2, 1) := by decide +kernel
theorem dX4_readRows_29 : decode cX4_readRows 29 = .ok (.aload_n 0, 1) := by decide +kernel
theorem dX4_readRows_30 : decode cX4_readRows 30 = .ok (.getfield 11, 3) := by decide +kernel
theorem dX4_readRows_33 : decode cX4_readRows 33 = .ok (.iload_n 3, 1) := by decide +kernel
theorem dX4_readRows_34 : decode cX4_readRows 34 = .ok (.aaload, 1) := by decide +kernel
theorem dX4_readRows_35 : decode cX4_readRows 35 = .ok (.getfield 90, 3) := by decide +kernel
theorem dX4_readRows_38 : decode cX4_readRows 38 = .ok (.iadd, 1) := by decide +kernel
theorem dX4_readRows_39 : decode cX4_readRows 39 = .ok (.istore_n 2, 1) := by decide +kernel
theorem dX4_readRows_40 : decode cX4_readRows 40 = .ok (.iinc 3 1, 3) := by decide +kernel
theorem dX4_readRows_43 : decode cX4_readRows 43 = .ok (.goto (-39), 3) := by decide +kernel
theorem dX4_readRows_46 : decode cX4_readRows 46 = .ok (.iload_n 2, 1) := by decide +kernel
theorem dX4_readRows_47 : decode cX4_readRows 47 = .ok (.ireturn, 1) := by decide +kernel
theorem dX4_openQuestions_0 : decode cX4_openQuestions 0 = .ok (.iconst 0, 1) := by decide +kernel
theorem dX4_openQuestions_1 : decode cX4_openQuestions 1 = .ok (.istore_n 1, 1) := by decide +kernel
theorem dX4_openQuestions_2 : decode cX4_openQuestions 2 = .ok (.iconst 0, 1) := by decide +kernel
theorem dX4_openQuestions_3 : decode cX4_openQuestions 3 = .ok (.istore_n 2, 1) := by decide +kernel
theorem dX4_openQuestions_4 : decode cX4_openQuestions 4 = .ok (.iload_n 2, 1) := by decide +kernel
theorem dX4_openQuestions_5 : decode cX4_openQuestions 5 = .ok (.aload_n 0, 1) := by decide +kernel
theorem dX4_openQuestions_6 : decode cX4_openQuestions 6 = .ok (.getfield 33, 3) := by decide +kernel
theorem dX4_openQuestions_9 : decode cX4_openQuestions 9 = .ok (.if_icmp .ge 24, 3) := by decide +kernel
theorem dX4_openQuestions_12 : decode cX4_openQuestions 12 = .ok (.aload_n 0, 1) := by decide +kernel
theorem dX4_openQuestions_13 : decode cX4_openQuestions 13 = .ok (.getfield 19, 3) := by decide +kernel
theorem dX4_openQuestions_16 : decode cX4_openQuestions 16 = .ok (.iload_n 2, 1) := by decide +kernel
theorem dX4_openQuestions_17 : decode cX4_openQuestions 17 = .ok (.aaload, 1) := by decide +kernel
theorem dX4_openQuestions_18 : decode cX4_openQuestions 18 = .ok (.getfield 72, 3) := by decide +kernel
theorem dX4_openQuestions_21 : decode cX4_openQuestions 21 = .ok (.ifCond .ne 6, 3) := by decide +kernel
theorem dX4_openQuestions_24 : decode cX4_openQuestions 24 = .ok (.iinc 1 1, 3) := by decide +kernel
theorem dX4_openQuestions_27 : decode cX4_openQuestions 27 = .ok (.iinc 2 1, 3) := by decide +kernel
theorem dX4_openQuestions_30 : decode cX4_openQuestions 30 = .ok (.goto (-26), 3) := by decide +kernel
theorem dX4_openQuestions_33 : decode cX4_openQuestions 33 = .ok (.iload_n 1, 1) := by decide +kernel
theorem dX4_openQuestions_34 : decode cX4_openQuestions 34 = .ok (.ireturn, 1) := by decide +kernel
theorem dX4_settle_0 : decode cX4_settle 0 = .ok (.iconst 0, 1) := by decide +kernel
theorem dX4_settle_1 : decode cX4_settle 1 = .ok (.istore_n 1, 1) := by decide +kernel
theorem dX4_settle_2 : decode cX4_settle 2 = .ok (.iload_n 1, 1) := by decide +kernel
theorem dX4_settle_3 : decode cX4_settle 3 = .ok (.aload_n 0, 1) := by decide +kernel
theorem dX4_settle_4 : decode cX4_settle 4 = .ok (.getfield 33, 3) := by decide +kernel
theorem dX4_settle_7 : decode cX4_settle 7 = .ok (.if_icmp .ge 83, 3) := by decide +kernel
theorem dX4_settle_10 : decode cX4_settle 10 = .ok (.aload_n 0, 1) := by decide +kernel
theorem dX4_settle_11 : decode cX4_settle 11 = .ok (.getfield 19, 3) := by decide +kernel
theorem dX4_settle_14 : decode cX4_settle 14 = .ok (.iload_n 1, 1) := by decide +kernel
theorem dX4_settle_15 : decode cX4_settle 15 = .ok (.aaload, 1) := by decide +kernel
theorem dX4_settle_16 : decode cX4_settle 16 = .ok (.astore_n 2, 1) := by decide +kernel
theorem dX4_settle_17 : decode cX4_settle 17 = .ok (.aload_n 2, 1) := by decide +kernel
theorem dX4_settle_18 : decode cX4_settle 18 = .ok (.getfield 72, 3) := by decide +kernel
theorem dX4_settle_21 : decode cX4_settle 21 = .ok (.ifCond .ne 63, 3) := by decide +kernel
theorem dX4_settle_24 : decode cX4_settle 24 = .ok (.aload_n 0, 1) := by decide +kernel
theorem dX4_settle_25 : decode cX4_settle 25 = .ok (.aload_n 2, 1) := by decide +kernel
theorem dX4_settle_26 : decode cX4_settle 26 = .ok (.getfield 63, 3) := by decide +kernel
theorem dX4_settle_29 : decode cX4_settle 29 = .ok (.invokevirtual 93, 3) := by decide +kernel
theorem dX4_settle_32 : decode cX4_settle 32 = .ok (.ifCond .ne 6, 3) := by decide +kernel
theorem dX4_settle_35 : decode cX4_settle 35 = .ok (.goto 49, 3) := by decide +kernel
theorem dX4_settle_38 : decode cX4_settle 38 = .ok (.aload_n 2, 1) := by decide +kernel
theorem dX4_settle_39 : decode cX4_settle 39 = .ok (.aload_n 0, 1) := by decide +kernel
theorem dX4_settle_40 : decode cX4_settle 40 = .ok (.aload_n 2, 1) := by decide +kernel
theorem dX4_settle_41 : decode cX4_settle 41 = .ok (.iconst 0, 1) := by decide +kernel
theorem dX4_settle_42 : decode cX4_settle 42 = .ok (.invokevirtual 96, 3) := by decide +kernel
theorem dX4_settle_45 : decode cX4_settle 45 = .ok (.putfield 100, 3) := by decide +kernel
theorem dX4_settle_48 : decode cX4_settle 48 = .ok (.aload_n 2, 1) := by decide +kernel
theorem dX4_settle_49 : decode cX4_settle 49 = .ok (.aload_n 0, 1) := by decide +kernel
theorem dX4_settle_50 : decode cX4_settle 50 = .ok (.aload_n 2, 1) := by decide +kernel
theorem dX4_settle_51 : decode cX4_settle 51 = .ok (.iconst 1, 1) := by decide +kernel
theorem dX4_settle_52 : decode cX4_settle 52 = .ok (.invokevirtual 96, 3) := by decide +kernel
theorem dX4_settle_55 : decode cX4_settle 55 = .ok (.putfield 103, 3) := by decide +kernel
theorem dX4_settle_58 : decode cX4_settle 58 = .ok (.aload_n 2, 1) := by decide +kernel
theorem dX4_settle_59 : decode cX4_settle 59 = .ok (.getfield 103, 3) := by decide +kernel
theorem dX4_settle_62 : decode cX4_settle 62 = .ok (.aload_n 2, 1) := by decide +kernel
theorem dX4_settle_63 : decode cX4_settle 63 = .ok (.getfield 100, 3) := by decide +kernel
theorem dX4_settle_66 : decode cX4_settle 66 = .ok (.isub, 1) := by decide +kernel
theorem dX4_settle_67 : decode cX4_settle 67 = .ok (.aload_n 2, 1) := by decide +kernel
theorem dX4_settle_68 : decode cX4_settle 68 = .ok (.getfield 69, 3) := by decide +kernel
theorem dX4_settle_71 : decode cX4_settle 71 = .ok (.if_icmp .gt 13, 3) := by decide +kernel
theorem dX4_settle_74 : decode cX4_settle 74 = .ok (.aload_n 2, 1) := by decide +kernel
theorem dX4_settle_75 : decode cX4_settle 75 = .ok (.aload_n 0, 1) := by decide +kernel
theorem dX4_settle_76 : decode cX4_settle 76 = .ok (.aload_n 2, 1) := by decide +kernel
theorem dX4_settle_77 : decode cX4_settle 77 = .ok (.iconst 2, 1) := by decide +kernel
theorem dX4_settle_78 : decode cX4_settle 78 = .ok (.invokevirtual 96, 3) := by decide +kernel
theorem dX4_settle_81 : decode cX4_settle 81 = .ok (.invokevirtual 106, 3) := by decide +kernel
theorem dX4_settle_84 : decode cX4_settle 84 = .ok (.iinc 1 1, 3) := by decide +kernel
theorem dX4_settle_87 : decode cX4_settle 87 = .ok (.goto (-85), 3) := by decide +kernel
theorem dX4_settle_90 : decode cX4_settle 90 = .ok (.return_, 1) := by decide +kernel
theorem dX4_answer_0 : decode cX4_answer 0 = .ok (.iconst 0, 1) := by decide +kernel
theorem dX4_answer_1 : decode cX4_answer 1 = .ok (.istore_n 3, 1) := by decide +kernel
theorem dX4_answer_2 : decode cX4_answer 2 = .ok (.iconst 0, 1) := by decide +kernel
theorem dX4_answer_3 : decode cX4_answer 3 = .ok (.istore 4, 2) := by decide +kernel
theorem dX4_answer_5 : decode cX4_answer 5 = .ok (.sipush 999, 3) := by decide +kernel
theorem dX4_answer_8 : decode cX4_answer 8 = .ok (.istore 5, 2) := by decide +kernel
theorem dX4_answer_10 : decode cX4_answer 10 = .ok (.iconst 0, 1) := by decide +kernel
theorem dX4_answer_11 : decode cX4_answer 11 = .ok (.istore 6, 2) := by decide +kernel
theorem dX4_answer_13 : decode cX4_answer 13 = .ok (.iconst 0, 1) := by decide +kernel
theorem dX4_answer_14 : decode cX4_answer 14 = .ok (.istore 7, 2) := by decide +kernel
theorem dX4_answer_16 : decode cX4_answer 16 = .ok (.iload 7, 2) := by decide +kernel
theorem dX4_answer_18 : decode cX4_answer 18 = .ok (.aload_n 0, 1) := by decide +kernel
theorem dX4_answer_19 : decode cX4_answer 19 = .ok (.getfield 25, 3) := by decide +kernel
theorem dX4_answer_22 : decode cX4_answer 22 = .ok (.if_icmp .ge 88, 3) := by decide +kernel
theorem dX4_answer_25 : decode cX4_answer 25 = .ok (.aload_n 0, 1) := by decide +kernel
theorem dX4_answer_26 : decode cX4_answer 26 = .ok (.getfield 11, 3) := by decide +kernel
theorem dX4_answer_29 : decode cX4_answer 29 = .ok (.iload 7, 2) := by decide +kernel
theorem dX4_answer_31 : decode cX4_answer 31 = .ok (.aaload, 1) := by decide +kernel
theorem dX4_answer_32 : decode cX4_answer 32 = .ok (.astore 8, 2) := by decide +kernel
theorem dX4_answer_34 : decode cX4_answer 34 = .ok (.aload_n 1, 1) := by decide +kernel
theorem dX4_answer_35 : decode cX4_answer 35 = .ok (.getfield 63, 3) := by decide +kernel
theorem dX4_answer_38 : decode cX4_answer 38 = .ok (.aload 8, 2) := by decide +kernel
theorem dX4_answer_40 : decode cX4_answer 40 = .ok (.getfield 83, 3) := by decide +kernel
theorem dX4_answer_43 : decode cX4_answer 43 = .ok (.invokestatic 86, 3) := by decide +kernel
theorem dX4_answer_46 : decode cX4_answer 46 = .ok (.ifCond .eq 58, 3) := by decide +kernel
theorem dX4_answer_49 : decode cX4_answer 49 = .ok (.aload 8, 2) := by decide +kernel
theorem dX4_answer_51 : decode cX4_answer 51 = .ok (.aload_n 1, 1) := by decide +kernel
theorem dX4_answer_52 : decode cX4_answer 52 = .ok (.getfield 60, 3) := by decide +kernel
theorem dX4_answer_55 : decode cX4_answer 55 = .ok (.aload_n 1, 1) := by decide +kernel
theorem dX4_answer_56 : decode cX4_answer 56 = .ok (.getfield 66, 3) := by decide +kernel
theorem dX4_answer_59 : decode cX4_answer 59 = .ok (.aload_n 0, 1) := by decide +kernel
theorem dX4_answer_60 : decode cX4_answer 60 = .ok (.aload 8, 2) := by decide +kernel
theorem dX4_answer_62 : decode cX4_answer 62 = .ok (.iload_n 2, 1) := by decide +kernel
theorem dX4_answer_63 : decode cX4_answer 63 = .ok (.invokevirtual 109, 3) := by decide +kernel
theorem dX4_answer_66 : decode cX4_answer 66 = .ok (.invokevirtual 113, 3) := by decide +kernel
theorem dX4_answer_69 : decode cX4_answer 69 = .ok (.istore 9, 2) := by decide +kernel
theorem dX4_answer_71 : decode cX4_answer 71 = .ok (.iload_n 3, 1) := by decide +kernel
theorem dX4_answer_72 : decode cX4_answer 72 = .ok (.aload 8, 2) := by decide +kernel
theorem dX4_answer_74 : decode cX4_answer 74 = .ok (.getfield 53, 3) := by decide +kernel
theorem dX4_answer_77 : decode cX4_answer 77 = .ok (.iadd, 1) := by decide +kernel
theorem dX4_answer_78 : decode cX4_answer 78 = .ok (.istore_n 3, 1) := by decide +kernel
theorem dX4_answer_79 : decode cX4_answer 79 = .ok (.iload 4, 2) := by decide +kernel
theorem dX4_answer_81 : decode cX4_answer 81 = .ok (.iload 9, 2) := by decide +kernel
theorem dX4_answer_83 : decode cX4_answer 83 = .ok (.iadd, 1) := by decide +kernel
theorem dX4_answer_84 : decode cX4_answer 84 = .ok (.istore 4, 2) := by decide +kernel
theorem dX4_answer_86 : decode cX4_answer 86 = .ok (.iload 5, 2) := by decide +kernel
theorem dX4_answer_88 : decode cX4_answer 88 = .ok (.iload 9, 2) := by decide +kernel
theorem dX4_answer_90 : decode cX4_answer 90 = .ok (.invokestatic 117, 3) := by decide +kernel
theorem dX4_answer_93 : decode cX4_answer 93 = .ok (.istore 5, 2) := by decide +kernel
theorem dX4_answer_95 : decode cX4_answer 95 = .ok (.iload 6, 2) := by decide +kernel
theorem dX4_answer_97 : decode cX4_answer 97 = .ok (.iload 9, 2) := by decide +kernel
theorem dX4_answer_99 : decode cX4_answer 99 = .ok (.invokestatic 123, 3) := by decide +kernel
theorem dX4_answer_102 : decode cX4_answer 102 = .ok (.istore 6, 2) := by decide +kernel
theorem dX4_answer_104 : decode cX4_answer 104 = .ok (.iinc 7 1, 3) := by decide +kernel
theorem dX4_answer_107 : decode cX4_answer 107 = .ok (.goto (-91), 3) := by decide +kernel
theorem dX4_answer_110 : decode cX4_answer 110 = .ok (.iload_n 3, 1) := by decide +kernel
theorem dX4_answer_111 : decode cX4_answer 111 = .ok (.ifCond .ne 6, 3) := by decide +kernel
theorem dX4_answer_114 : decode cX4_answer 114 = .ok (.bipush (-5), 2) := by decide +kernel
theorem dX4_answer_116 : decode cX4_answer 116 = .ok (.ireturn, 1) := by decide +kernel
theorem dX4_answer_117 : decode cX4_answer 117 = .ok (.aload_n 1, 1) := by decide +kernel
theorem dX4_answer_118 : decode cX4_answer 118 = .ok (.getfield 60, 3) := by decide +kernel
theorem dX4_answer_121 : decode cX4_answer 121 = .ok (.tableswitch 41 2 4 #[27, 30, 33], 27) := by decide +kernel
theorem dX4_answer_148 : decode cX4_answer 148 = .ok (.iload 5, 2) := by decide +kernel
theorem dX4_answer_150 : decode cX4_answer 150 = .ok (.ireturn, 1) := by decide +kernel
theorem dX4_answer_151 : decode cX4_answer 151 = .ok (.iload 6, 2) := by decide +kernel
theorem dX4_answer_153 : decode cX4_answer 153 = .ok (.ireturn, 1) := by decide +kernel
theorem dX4_answer_154 : decode cX4_answer 154 = .ok (.bipush 100, 2) := by decide +kernel
theorem dX4_answer_156 : decode cX4_answer 156 = .ok (.iload 4, 2) := by decide +kernel
theorem dX4_answer_158 : decode cX4_answer 158 = .ok (.imul, 1) := by decide +kernel
theorem dX4_answer_159 : decode cX4_answer 159 = .ok (.iload_n 3, 1) := by decide +kernel
theorem dX4_answer_160 : decode cX4_answer 160 = .ok (.idiv, 1) := by decide +kernel
theorem dX4_answer_161 : decode cX4_answer 161 = .ok (.ireturn, 1) := by decide +kernel
theorem dX4_answer_162 : decode cX4_answer 162 = .ok (.iload 4, 2) := by decide +kernel
theorem dX4_answer_164 : decode cX4_answer 164 = .ok (.ireturn, 1) := by decide +kernel
theorem dX4_assumed_0 : decode cX4_assumed 0 = .ok (.iload_n 2, 1) := by decide +kernel
theorem dX4_assumed_1 : decode cX4_assumed 1 = .ok (.ifCond .ne 8, 3) := by decide +kernel
theorem dX4_assumed_4 : decode cX4_assumed 4 = .ok (.aload_n 1, 1) := by decide +kernel
theorem dX4_assumed_5 : decode cX4_assumed 5 = .ok (.getfield 126, 3) := by decide +kernel
theorem dX4_assumed_8 : decode cX4_assumed 8 = .ok (.ireturn, 1) := by decide +kernel
theorem dX4_assumed_9 : decode cX4_assumed 9 = .ok (.iload_n 2, 1) := by decide +kernel
theorem dX4_assumed_10 : decode cX4_assumed 10 = .ok (.iconst 1, 1) := by decide +kernel
theorem dX4_assumed_11 : decode cX4_assumed 11 = .ok (.if_icmp .ne 8, 3) := by decide +kernel
theorem dX4_assumed_14 : decode cX4_assumed 14 = .ok (.aload_n 1, 1) := by decide +kernel
theorem dX4_assumed_15 : decode cX4_assumed 15 = .ok (.getfield 129, 3) := by decide +kernel
theorem dX4_assumed_18 : decode cX4_assumed 18 = .ok (.ireturn, 1) := by decide +kernel
theorem dX4_assumed_19 : decode cX4_assumed 19 = .ok (.iconst 0, 1) := by decide +kernel
theorem dX4_assumed_20 : decode cX4_assumed 20 = .ok (.istore_n 3, 1) := by decide +kernel
theorem dX4_assumed_21 : decode cX4_assumed 21 = .ok (.iconst 0, 1) := by decide +kernel
theorem dX4_assumed_22 : decode cX4_assumed 22 = .ok (.istore 4, 2) := by decide +kernel
theorem dX4_assumed_24 : decode cX4_assumed 24 = .ok (.iconst 0, 1) := by decide +kernel
theorem dX4_assumed_25 : decode cX4_assumed 25 = .ok (.istore 5, 2) := by decide +kernel
theorem dX4_assumed_27 : decode cX4_assumed 27 = .ok (.iload 5, 2) := by decide +kernel
theorem dX4_assumed_29 : decode cX4_assumed 29 = .ok (.aload_n 0, 1) := by decide +kernel
theorem dX4_assumed_30 : decode cX4_assumed 30 = .ok (.getfield 25, 3) := by decide +kernel
theorem dX4_assumed_33 : decode cX4_assumed 33 = .ok (.if_icmp .ge 54, 3) := by decide +kernel
theorem dX4_assumed_36 : decode cX4_assumed 36 = .ok (.aload_n 0, 1) := by decide +kernel
theorem dX4_assumed_37 : decode cX4_assumed 37 = .ok (.getfield 11, 3) := by decide +kernel
theorem dX4_assumed_40 : decode cX4_assumed 40 = .ok (.iload 5, 2) := by decide +kernel
theorem dX4_assumed_42 : decode cX4_assumed 42 = .ok (.aaload, 1) := by decide +kernel
theorem dX4_assumed_43 : decode cX4_assumed 43 = .ok (.getfield 83, 3) := by decide +kernel
theorem dX4_assumed_46 : decode cX4_assumed 46 = .ok (.aload_n 1, 1) := by decide +kernel
theorem dX4_assumed_47 : decode cX4_assumed 47 = .ok (.getfield 83, 3) := by decide +kernel
theorem dX4_assumed_50 : decode cX4_assumed 50 = .ok (.if_icmp .ne 31, 3) := by decide +kernel
theorem dX4_assumed_53 : decode cX4_assumed 53 = .ok (.iload_n 3, 1) := by decide +kernel
theorem dX4_assumed_54 : decode cX4_assumed 54 = .ok (.aload_n 0, 1) := by decide +kernel
theorem dX4_assumed_55 : decode cX4_assumed 55 = .ok (.getfield 11, 3) := by decide +kernel
theorem dX4_assumed_58 : decode cX4_assumed 58 = .ok (.iload 5, 2) := by decide +kernel
theorem dX4_assumed_60 : decode cX4_assumed 60 = .ok (.aaload, 1) := by decide +kernel
theorem dX4_assumed_61 : decode cX4_assumed 61 = .ok (.getfield 90, 3) := by decide +kernel
theorem dX4_assumed_64 : decode cX4_assumed 64 = .ok (.iadd, 1) := by decide +kernel
theorem dX4_assumed_65 : decode cX4_assumed 65 = .ok (.istore_n 3, 1) := by decide +kernel
theorem dX4_assumed_66 : decode cX4_assumed 66 = .ok (.iload 4, 2) := by decide +kernel
theorem dX4_assumed_68 : decode cX4_assumed 68 = .ok (.aload_n 0, 1) := by decide +kernel
theorem dX4_assumed_69 : decode cX4_assumed 69 = .ok (.getfield 11, 3) := by decide +kernel
theorem dX4_assumed_72 : decode cX4_assumed 72 = .ok (.iload 5, 2) := by decide +kernel
theorem dX4_assumed_74 : decode cX4_assumed 74 = .ok (.aaload, 1) := by decide +kernel
theorem dX4_assumed_75 : decode cX4_assumed 75 = .ok (.getfield 132, 3) := by decide +kernel
theorem dX4_assumed_78 : decode cX4_assumed 78 = .ok (.iadd, 1) := by decide +kernel
theorem dX4_assumed_79 : decode cX4_assumed 79 = .ok (.istore 4, 2) := by decide +kernel
theorem dX4_assumed_81 : decode cX4_assumed 81 = .ok (.iinc 5 1, 3) := by decide +kernel
theorem dX4_assumed_84 : decode cX4_assumed 84 = .ok (.goto (-57), 3) := by decide +kernel
theorem dX4_assumed_87 : decode cX4_assumed 87 = .ok (.iload_n 3, 1) := by decide +kernel
theorem dX4_assumed_88 : decode cX4_assumed 88 = .ok (.ifCond .ne 15, 3) := by decide +kernel
theorem dX4_assumed_91 : decode cX4_assumed 91 = .ok (.aload_n 1, 1) := by decide +kernel
theorem dX4_assumed_92 : decode cX4_assumed 92 = .ok (.getfield 126, 3) := by decide +kernel
theorem dX4_assumed_95 : decode cX4_assumed 95 = .ok (.aload_n 1, 1) := by decide +kernel
theorem dX4_assumed_96 : decode cX4_assumed 96 = .ok (.getfield 129, 3) := by decide +kernel
theorem dX4_assumed_99 : decode cX4_assumed 99 = .ok (.iadd, 1) := by decide +kernel
theorem dX4_assumed_100 : decode cX4_assumed 100 = .ok (.iconst 2, 1) := by decide +kernel
theorem dX4_assumed_101 : decode cX4_assumed 101 = .ok (.idiv, 1) := by decide +kernel
theorem dX4_assumed_102 : decode cX4_assumed 102 = .ok (.ireturn, 1) := by decide +kernel
theorem dX4_assumed_103 : decode cX4_assumed 103 = .ok (.aload_n 1, 1) := by decide +kernel
theorem dX4_assumed_104 : decode cX4_assumed 104 = .ok (.getfield 126, 3) := by decide +kernel
theorem dX4_assumed_107 : decode cX4_assumed 107 = .ok (.aload_n 1, 1) := by decide +kernel
theorem dX4_assumed_108 : decode cX4_assumed 108 = .ok (.getfield 129, 3) := by decide +kernel
theorem dX4_assumed_111 : decode cX4_assumed 111 = .ok (.iload 4, 2) := by decide +kernel
theorem dX4_assumed_113 : decode cX4_assumed 113 = .ok (.iload_n 3, 1) := by decide +kernel
theorem dX4_assumed_114 : decode cX4_assumed 114 = .ok (.idiv, 1) := by decide +kernel
theorem dX4_assumed_115 : decode cX4_assumed 115 = .ok (.invokestatic 117, 3) := by decide +kernel
theorem dX4_assumed_118 : decode cX4_assumed 118 = .ok (.invokestatic 123, 3) := by decide +kernel
theorem dX4_assumed_121 : decode cX4_assumed 121 = .ok (.ireturn, 1) := by decide +kernel
theorem dX4_weight_0 : decode cX4_weight 0 = .ok (.iconst 0, 1) := by decide +kernel
theorem dX4_weight_1 : decode cX4_weight 1 = .ok (.istore_n 2, 1) := by decide +kernel
theorem dX4_weight_2 : decode cX4_weight 2 = .ok (.iconst 0, 1) := by decide +kernel
theorem dX4_weight_3 : decode cX4_weight 3 = .ok (.istore_n 3, 1) := by decide +kernel
theorem dX4_weight_4 : decode cX4_weight 4 = .ok (.iload_n 3, 1) := by decide +kernel
theorem dX4_weight_5 : decode cX4_weight 5 = .ok (.aload_n 0, 1) := by decide +kernel
theorem dX4_weight_6 : decode cX4_weight 6 = .ok (.getfield 33, 3) := by decide +kernel
theorem dX4_weight_9 : decode cX4_weight 9 = .ok (.if_icmp .ge 49, 3) := by decide +kernel
theorem dX4_weight_12 : decode cX4_weight 12 = .ok (.aload_n 0, 1) := by decide +kernel
theorem dX4_weight_13 : decode cX4_weight 13 = .ok (.getfield 19, 3) := by decide +kernel
theorem dX4_weight_16 : decode cX4_weight 16 = .ok (.iload_n 3, 1) := by decide +kernel
theorem dX4_weight_17 : decode cX4_weight 17 = .ok (.aaload, 1) := by decide +kernel
theorem dX4_weight_18 : decode cX4_weight 18 = .ok (.astore 4, 2) := by decide +kernel
theorem dX4_weight_20 : decode cX4_weight 20 = .ok (.aload 4, 2) := by decide +kernel
theorem dX4_weight_22 : decode cX4_weight 22 = .ok (.getfield 72, 3) := by decide +kernel
theorem dX4_weight_25 : decode cX4_weight 25 = .ok (.ifCond .ne 27, 3) := by decide +kernel
theorem dX4_weight_28 : decode cX4_weight 28 = .ok (.aload 4, 2) := by decide +kernel
theorem dX4_weight_30 : decode cX4_weight 30 = .ok (.getfield 63, 3) := by decide +kernel
theorem dX4_weight_33 : decode cX4_weight 33 = .ok (.aload_n 1, 1) := by decide +kernel
theorem dX4_weight_34 : decode cX4_weight 34 = .ok (.getfield 83, 3) := by decide +kernel
theorem dX4_weight_37 : decode cX4_weight 37 = .ok (.invokestatic 86, 3) := by decide +kernel
theorem dX4_weight_40 : decode cX4_weight 40 = .ok (.ifCond .eq 12, 3) := by decide +kernel
theorem dX4_weight_43 : decode cX4_weight 43 = .ok (.iload_n 2, 1) := by decide +kernel
theorem dX4_weight_44 : decode cX4_weight 44 = .ok (.aload 4, 2) := by decide +kernel
theorem dX4_weight_46 : decode cX4_weight 46 = .ok (.aload_n 1, 1) := by decide +kernel
theorem dX4_weight_47 : decode cX4_weight 47 = .ok (.invokevirtual 135, 3) := by decide +kernel
theorem dX4_weight_50 : decode cX4_weight 50 = .ok (.iadd, 1) := by decide +kernel
theorem dX4_weight_51 : decode cX4_weight 51 = .ok (.istore_n 2, 1) := by decide +kernel
theorem dX4_weight_52 : decode cX4_weight 52 = .ok (.iinc 3 1, 3) := by decide +kernel
theorem dX4_weight_55 : decode cX4_weight 55 = .ok (.goto (-51), 3) := by decide +kernel
theorem dX4_weight_58 : decode cX4_weight 58 = .ok (.iload_n 2, 1) := by decide +kernel
theorem dX4_weight_59 : decode cX4_weight 59 = .ok (.ireturn, 1) := by decide +kernel
theorem dX4_nextBlock_0 : decode cX4_nextBlock 0 = .ok (.aload_n 0, 1) := by decide +kernel
theorem dX4_nextBlock_1 : decode cX4_nextBlock 1 = .ok (.getfield 39, 3) := by decide +kernel
theorem dX4_nextBlock_4 : decode cX4_nextBlock 4 = .ok (.ifCond .ne 10, 3) := by decide +kernel
theorem dX4_nextBlock_7 : decode cX4_nextBlock 7 = .ok (.aload_n 0, 1) := by decide +kernel
theorem dX4_nextBlock_8 : decode cX4_nextBlock 8 = .ok (.invokevirtual 139, 3) := by decide +kernel
theorem dX4_nextBlock_11 : decode cX4_nextBlock 11 = .ok (.goto 7, 3) := by decide +kernel
theorem dX4_nextBlock_14 : decode cX4_nextBlock 14 = .ok (.aload_n 0, 1) := by decide +kernel
theorem dX4_nextBlock_15 : decode cX4_nextBlock 15 = .ok (.invokevirtual 143, 3) := by decide +kernel
theorem dX4_nextBlock_18 : decode cX4_nextBlock 18 = .ok (.ireturn, 1) := by decide +kernel
theorem dX4_blockInTurn_0 : decode cX4_blockInTurn 0 = .ok (.iconst 0, 1) := by decide +kernel
theorem dX4_blockInTurn_1 : decode cX4_blockInTurn 1 = .ok (.istore_n 1, 1) := by decide +kernel
theorem dX4_blockInTurn_2 : decode cX4_blockInTurn 2 = .ok (.iload_n 1, 1) := by decide +kernel
theorem dX4_blockInTurn_3 : decode cX4_blockInTurn 3 = .ok (.aload_n 0, 1) := by decide +kernel
theorem dX4_blockInTurn_4 : decode cX4_blockInTurn 4 = .ok (.getfield 25, 3) := by decide +kernel
theorem dX4_blockInTurn_7 : decode cX4_blockInTurn 7 = .ok (.if_icmp .ge 35, 3) := by decide +kernel
theorem dX4_blockInTurn_10 : decode cX4_blockInTurn 10 = .ok (.aload_n 0, 1) := by decide +kernel
theorem dX4_blockInTurn_11 : decode cX4_blockInTurn 11 = .ok (.getfield 42, 3) := by decide +kernel
theorem dX4_blockInTurn_14 : decode cX4_blockInTurn 14 = .ok (.iload_n 1, 1) := by decide +kernel
theorem dX4_blockInTurn_15 : decode cX4_blockInTurn 15 = .ok (.iadd, 1) := by decide +kernel
theorem dX4_blockInTurn_16 : decode cX4_blockInTurn 16 = .ok (.aload_n 0, 1) := by decide +kernel
theorem dX4_blockInTurn_17 : decode cX4_blockInTurn 17 = .ok (.getfield 25, 3) := by decide +kernel
theorem dX4_blockInTurn_20 : decode cX4_blockInTurn 20 = .ok (.irem, 1) := by decide +kernel
theorem dX4_blockInTurn_21 : decode cX4_blockInTurn 21 = .ok (.istore_n 2, 1) := by decide +kernel
theorem dX4_blockInTurn_22 : decode cX4_blockInTurn 22 = .ok (.aload_n 0, 1) := by decide +kernel
theorem dX4_blockInTurn_23 : decode cX4_blockInTurn 23 = .ok (.getfield 11, 3) := by decide +kernel
theorem dX4_blockInTurn_26 : decode cX4_blockInTurn 26 = .ok (.iload_n 2, 1) := by decide +kernel
theorem dX4_blockInTurn_27 : decode cX4_blockInTurn 27 = .ok (.aaload, 1) := by decide +kernel
theorem dX4_blockInTurn_28 : decode cX4_blockInTurn 28 = .ok (.invokevirtual 146, 3) := by decide +kernel
theorem dX4_blockInTurn_31 : decode cX4_blockInTurn 31 = .ok (.ifCond .le 5, 3) := by decide +kernel
theorem dX4_blockInTurn_34 : decode cX4_blockInTurn 34 = .ok (.iload_n 2, 1) := by decide +kernel
theorem dX4_blockInTurn_35 : decode cX4_blockInTurn 35 = .ok (.ireturn, 1) := by decide +kernel
theorem dX4_blockInTurn_36 : decode cX4_blockInTurn 36 = .ok (.iinc 1 1, 3) := by decide +kernel
theorem dX4_blockInTurn_39 : decode cX4_blockInTurn 39 = .ok (.goto (-37), 3) := by decide +kernel
theorem dX4_blockInTurn_42 : decode cX4_blockInTurn 42 = .ok (.bipush (-5), 2) := by decide +kernel
theorem dX4_blockInTurn_44 : decode cX4_blockInTurn 44 = .ok (.ireturn, 1) := by decide +kernel
theorem dX4_mostPressingBlock_0 : decode cX4_mostPressingBlock 0 = .ok (.bipush (-5), 2) := by decide +kernel
theorem dX4_mostPressingBlock_2 : decode cX4_mostPressingBlock 2 = .ok (.istore_n 1, 1) := by decide +kernel
theorem dX4_mostPressingBlock_3 : decode cX4_mostPressingBlock 3 = .ok (.iconst (-1), 1) := by decide +kernel
theorem dX4_mostPressingBlock_4 : decode cX4_mostPressingBlock 4 = .ok (.istore_n 2, 1) := by decide +kernel
theorem dX4_mostPressingBlock_5 : decode cX4_mostPressingBlock 5 = .ok (.iconst 0, 1) := by decide +kernel
theorem dX4_mostPressingBlock_6 : decode cX4_mostPressingBlock 6 = .ok (.istore_n 3, 1) := by decide +kernel
theorem dX4_mostPressingBlock_7 : decode cX4_mostPressingBlock 7 = .ok (.iload_n 3, 1) := by decide +kernel
theorem dX4_mostPressingBlock_8 : decode cX4_mostPressingBlock 8 = .ok (.aload_n 0, 1) := by decide +kernel
theorem dX4_mostPressingBlock_9 : decode cX4_mostPressingBlock 9 = .ok (.getfield 25, 3) := by decide +kernel
theorem dX4_mostPressingBlock_12 : decode cX4_mostPressingBlock 12 = .ok (.if_icmp .ge 72, 3) := by decide +kernel
theorem dX4_mostPressingBlock_15 : decode cX4_mostPressingBlock 15 = .ok (.aload_n 0, 1) := by decide +kernel
theorem dX4_mostPressingBlock_16 : decode cX4_mostPressingBlock 16 = .ok (.getfield 11, 3) := by decide +kernel
theorem dX4_mostPressingBlock_19 : decode cX4_mostPressingBlock 19 = .ok (.iload_n 3, 1) := by decide +kernel
theorem dX4_mostPressingBlock_20 : decode cX4_mostPressingBlock 20 = .ok (.aaload, 1) := by decide +kernel
theorem dX4_mostPressingBlock_21 : decode cX4_mostPressingBlock 21 = .ok (.astore 4, 2) := by decide +kernel
theorem dX4_mostPressingBlock_23 : decode cX4_mostPressingBlock 23 = .ok (.aload 4, 2) := by decide +kernel
theorem dX4_mostPressingBlock_25 : decode cX4_mostPressingBlock 25 = .ok (.invokevirtual 146, 3) := by decide +kernel
theorem dX4_mostPressingBlock_28 : decode cX4_mostPressingBlock 28 = .ok (.ifCond .le 50, 3) := by decide +kernel
theorem dX4_mostPressingBlock_31 : decode cX4_mostPressingBlock 31 = .ok (.aload_n 0, 1) := by decide +kernel
theorem dX4_mostPressingBlock_32 : decode cX4_mostPressingBlock 32 = .ok (.getfield 39, 3) := by decide +kernel
theorem dX4_mostPressingBlock_35 : decode cX4_mostPressingBlock 35 = .ok (.iconst 1, 1) := by decide +kernel
theorem dX4_mostPressingBlock_36 : decode cX4_mostPressingBlock 36 = .ok (.if_icmp .ne 23, 3) := by decide +kernel
theorem dX4_mostPressingBlock_39 : decode cX4_mostPressingBlock 39 = .ok (.aload 4, 2) := by decide +kernel
theorem dX4_mostPressingBlock_41 : decode cX4_mostPressingBlock 41 = .ok (.invokevirtual 146, 3) := by decide +kernel
theorem dX4_mostPressingBlock_44 : decode cX4_mostPressingBlock 44 = .ok (.aload 4, 2) := by decide +kernel
theorem dX4_mostPressingBlock_46 : decode cX4_mostPressingBlock 46 = .ok (.getfield 129, 3) := by decide +kernel
theorem dX4_mostPressingBlock_49 : decode cX4_mostPressingBlock 49 = .ok (.aload 4, 2) := by decide +kernel
theorem dX4_mostPressingBlock_51 : decode cX4_mostPressingBlock 51 = .ok (.getfield 126, 3) := by decide +kernel
theorem dX4_mostPressingBlock_54 : decode cX4_mostPressingBlock 54 = .ok (.isub, 1) := by decide +kernel
theorem dX4_mostPressingBlock_55 : decode cX4_mostPressingBlock 55 = .ok (.imul, 1) := by decide +kernel
theorem dX4_mostPressingBlock_56 : decode cX4_mostPressingBlock 56 = .ok (.goto 9, 3) := by decide +kernel
theorem dX4_mostPressingBlock_59 : decode cX4_mostPressingBlock 59 = .ok (.aload_n 0, 1) := by decide +kernel
theorem dX4_mostPressingBlock_60 : decode cX4_mostPressingBlock 60 = .ok (.aload 4, 2) := by decide +kernel
theorem dX4_mostPressingBlock_62 : decode cX4_mostPressingBlock 62 = .ok (.invokevirtual 149, 3) := by decide +kernel
theorem dX4_mostPressingBlock_65 : decode cX4_mostPressingBlock 65 = .ok (.istore 5, 2) := by decide +kernel
theorem dX4_mostPressingBlock_67 : decode cX4_mostPressingBlock 67 = .ok (.iload 5, 2) := by decide +kernel
theorem dX4_mostPressingBlock_69 : decode cX4_mostPressingBlock 69 = .ok (.iload_n 2, 1) := by decide +kernel
theorem dX4_mostPressingBlock_70 : decode cX4_mostPressingBlock 70 = .ok (.if_icmp .le 8, 3) := by decide +kernel
theorem dX4_mostPressingBlock_73 : decode cX4_mostPressingBlock 73 = .ok (.iload_n 3, 1) := by decide +kernel
theorem dX4_mostPressingBlock_74 : decode cX4_mostPressingBlock 74 = .ok (.istore_n 1, 1) := by decide +kernel
theorem dX4_mostPressingBlock_75 : decode cX4_mostPressingBlock 75 = .ok (.iload 5, 2) := by decide +kernel
theorem dX4_mostPressingBlock_77 : decode cX4_mostPressingBlock 77 = .ok (.istore_n 2, 1) := by decide +kernel
theorem dX4_mostPressingBlock_78 : decode cX4_mostPressingBlock 78 = .ok (.iinc 3 1, 3) := by decide +kernel
theorem dX4_mostPressingBlock_81 : decode cX4_mostPressingBlock 81 = .ok (.goto (-74), 3) := by decide +kernel
theorem dX4_mostPressingBlock_84 : decode cX4_mostPressingBlock 84 = .ok (.iload_n 1, 1) := by decide +kernel
theorem dX4_mostPressingBlock_85 : decode cX4_mostPressingBlock 85 = .ok (.ireturn, 1) := by decide +kernel
theorem dX4_readByPlan_0 : decode cX4_readByPlan 0 = .ok (.aload_n 0, 1) := by decide +kernel
theorem dX4_readByPlan_1 : decode cX4_readByPlan 1 = .ok (.invokevirtual 152, 3) := by decide +kernel
theorem dX4_readByPlan_4 : decode cX4_readByPlan 4 = .ok (.istore_n 1, 1) := by decide +kernel
theorem dX4_readByPlan_5 : decode cX4_readByPlan 5 = .ok (.aload_n 0, 1) := by decide +kernel
theorem dX4_readByPlan_6 : decode cX4_readByPlan 6 = .ok (.iload_n 1, 1) := by decide +kernel
theorem dX4_readByPlan_7 : decode cX4_readByPlan 7 = .ok (.invokevirtual 49, 3) := by decide +kernel
theorem dX4_readByPlan_10 : decode cX4_readByPlan 10 = .ok (.ifCond .ne 5, 3) := by decide +kernel
theorem dX4_readByPlan_13 : decode cX4_readByPlan 13 = .ok (.iconst 0, 1) := by decide +kernel
theorem dX4_readByPlan_14 : decode cX4_readByPlan 14 = .ok (.ireturn, 1) := by decide +kernel
theorem dX4_readByPlan_15 : decode cX4_readByPlan 15 = .ok (.aload_n 0, 1) := by decide +kernel
theorem dX4_readByPlan_16 : decode cX4_readByPlan 16 = .ok (.getfield 11, 3) := by decide +kernel
theorem dX4_readByPlan_19 : decode cX4_readByPlan 19 = .ok (.iload_n 1, 1) := by decide +kernel
theorem dX4_readByPlan_20 : decode cX4_readByPlan 20 = .ok (.aaload, 1) := by decide +kernel
theorem dX4_readByPlan_21 : decode cX4_readByPlan 21 = .ok (.invokevirtual 155, 3) := by decide +kernel
theorem dX4_readByPlan_24 : decode cX4_readByPlan 24 = .ok (.pop, 1) := by decide +kernel
theorem dX4_readByPlan_25 : decode cX4_readByPlan 25 = .ok (.aload_n 0, 1) := by decide +kernel
theorem dX4_readByPlan_26 : decode cX4_readByPlan 26 = .ok (.getfield 39, 3) := by decide +kernel
theorem dX4_readByPlan_29 : decode cX4_readByPlan 29 = .ok (.ifCond .ne 24, 3) := by decide +kernel
theorem dX4_readByPlan_32 : decode cX4_readByPlan 32 = .ok (.aload_n 0, 1) := by decide +kernel
theorem dX4_readByPlan_33 : decode cX4_readByPlan 33 = .ok (.iload_n 1, 1) := by decide +kernel
theorem dX4_readByPlan_34 : decode cX4_readByPlan 34 = .ok (.iconst 1, 1) := by decide +kernel
theorem dX4_readByPlan_35 : decode cX4_readByPlan 35 = .ok (.iadd, 1) := by decide +kernel
theorem dX4_readByPlan_36 : decode cX4_readByPlan 36 = .ok (.aload_n 0, 1) := by decide +kernel
theorem dX4_readByPlan_37 : decode cX4_readByPlan 37 = .ok (.getfield 25, 3) := by decide +kernel
theorem dX4_readByPlan_40 : decode cX4_readByPlan 40 = .ok (.if_icmp .ge 9, 3) := by decide +kernel
theorem dX4_readByPlan_43 : decode cX4_readByPlan 43 = .ok (.iload_n 1, 1) := by decide +kernel
theorem dX4_readByPlan_44 : decode cX4_readByPlan 44 = .ok (.iconst 1, 1) := by decide +kernel
theorem dX4_readByPlan_45 : decode cX4_readByPlan 45 = .ok (.iadd, 1) := by decide +kernel
theorem dX4_readByPlan_46 : decode cX4_readByPlan 46 = .ok (.goto 4, 3) := by decide +kernel
theorem dX4_readByPlan_49 : decode cX4_readByPlan 49 = .ok (.iconst 0, 1) := by decide +kernel
theorem dX4_readByPlan_50 : decode cX4_readByPlan 50 = .ok (.putfield 42, 3) := by decide +kernel
theorem dX4_readByPlan_53 : decode cX4_readByPlan 53 = .ok (.aload_n 0, 1) := by decide +kernel
theorem dX4_readByPlan_54 : decode cX4_readByPlan 54 = .ok (.invokevirtual 158, 3) := by decide +kernel
theorem dX4_readByPlan_57 : decode cX4_readByPlan 57 = .ok (.iconst 1, 1) := by decide +kernel
theorem dX4_readByPlan_58 : decode cX4_readByPlan 58 = .ok (.ireturn, 1) := by decide +kernel
theorem dX4_readWhileOpen_0 : decode cX4_readWhileOpen 0 = .ok (.iconst 0, 1) := by decide +kernel
theorem dX4_readWhileOpen_1 : decode cX4_readWhileOpen 1 = .ok (.istore_n 1, 1) := by decide +kernel
theorem dX4_readWhileOpen_2 : decode cX4_readWhileOpen 2 = .ok (.iconst 0, 1) := by decide +kernel
theorem dX4_readWhileOpen_3 : decode cX4_readWhileOpen 3 = .ok (.istore_n 2, 1) := by decide +kernel
theorem dX4_readWhileOpen_4 : decode cX4_readWhileOpen 4 = .ok (.iload_n 2, 1) := by decide +kernel
theorem dX4_readWhileOpen_5 : decode cX4_readWhileOpen 5 = .ok (.sipush 128, 3) := by decide +kernel
theorem dX4_readWhileOpen_8 : decode cX4_readWhileOpen 8 = .ok (.if_icmp .ge 29, 3) := by decide +kernel
theorem dX4_readWhileOpen_11 : decode cX4_readWhileOpen 11 = .ok (.aload_n 0, 1) := by decide +kernel
theorem dX4_readWhileOpen_12 : decode cX4_readWhileOpen 12 = .ok (.invokevirtual 161, 3) := by decide +kernel
theorem dX4_readWhileOpen_15 : decode cX4_readWhileOpen 15 = .ok (.ifCond .eq 22, 3) := by decide +kernel
theorem dX4_readWhileOpen_18 : decode cX4_readWhileOpen 18 = .ok (.aload_n 0, 1) := by decide +kernel
theorem dX4_readWhileOpen_19 : decode cX4_readWhileOpen 19 = .ok (.invokevirtual 164, 3) := by decide +kernel
theorem dX4_readWhileOpen_22 : decode cX4_readWhileOpen 22 = .ok (.ifCond .ne 6, 3) := by decide +kernel
theorem dX4_readWhileOpen_25 : decode cX4_readWhileOpen 25 = .ok (.goto 12, 3) := by decide +kernel
theorem dX4_readWhileOpen_28 : decode cX4_readWhileOpen 28 = .ok (.iinc 1 1, 3) := by decide +kernel
theorem dX4_readWhileOpen_31 : decode cX4_readWhileOpen 31 = .ok (.iinc 2 1, 3) := by decide +kernel
theorem dX4_readWhileOpen_34 : decode cX4_readWhileOpen 34 = .ok (.goto (-30), 3) := by decide +kernel
theorem dX4_readWhileOpen_37 : decode cX4_readWhileOpen 37 = .ok (.iload_n 1, 1) := by decide +kernel
theorem dX4_readWhileOpen_38 : decode cX4_readWhileOpen 38 = .ok (.ireturn, 1) := by decide +kernel
theorem dX5_init_0 : decode cX5_init 0 = .ok (.aload_n 0, 1) := by decide +kernel
theorem dX5_init_1 : decode cX5_init 1 = .ok (.invokespecial 3, 3) := by decide +kernel
theorem dX5_init_4 : decode cX5_init 4 = .ok (.aload_n 0, 1) := by decide +kernel
theorem dX5_init_5 : decode cX5_init 5 = .ok (.new 9, 3) := by decide +kernel
theorem dX5_init_8 : decode cX5_init 8 = .ok (.dup, 1) := by decide +kernel
theorem dX5_init_9 : decode cX5_init 9 = .ok (.invokespecial 11, 3) := by decide +kernel
theorem dX5_init_12 : decode cX5_init 12 = .ok (.putfield 12, 3) := by decide +kernel
theorem dX5_init_15 : decode cX5_init 15 = .ok (.aload_n 0, 1) := by decide +kernel
theorem dX5_init_16 : decode cX5_init 16 = .ok (.new 16, 3) := by decide +kernel
theorem dX5_init_19 : decode cX5_init 19 = .ok (.dup, 1) := by decide +kernel
theorem dX5_init_20 : decode cX5_init 20 = .ok (.invokespecial 18, 3) := by decide +kernel
theorem dX5_init_23 : decode cX5_init 23 = .ok (.putfield 19, 3) := by decide +kernel
theorem dX5_init_26 : decode cX5_init 26 = .ok (.aload_n 0, 1) := by decide +kernel
theorem dX5_init_27 : decode cX5_init 27 = .ok (.new 16, 3) := by decide +kernel
theorem dX5_init_30 : decode cX5_init 30 = .ok (.dup, 1) := by decide +kernel
theorem dX5_init_31 : decode cX5_init 31 = .ok (.invokespecial 18, 3) := by decide +kernel
theorem dX5_init_34 : decode cX5_init 34 = .ok (.putfield 23, 3) := by decide +kernel
theorem dX5_init_37 : decode cX5_init 37 = .ok (.aload_n 0, 1) := by decide +kernel
theorem dX5_init_38 : decode cX5_init 38 = .ok (.new 16, 3) := by decide +kernel
theorem dX5_init_41 : decode cX5_init 41 = .ok (.dup, 1) := by decide +kernel
theorem dX5_init_42 : decode cX5_init 42 = .ok (.invokespecial 18, 3) := by decide +kernel
theorem dX5_init_45 : decode cX5_init 45 = .ok (.putfield 26, 3) := by decide +kernel
theorem dX5_init_48 : decode cX5_init 48 = .ok (.aload_n 0, 1) := by decide +kernel
theorem dX5_init_49 : decode cX5_init 49 = .ok (.new 29, 3) := by decide +kernel
theorem dX5_init_52 : decode cX5_init 52 = .ok (.dup, 1) := by decide +kernel
theorem dX5_init_53 : decode cX5_init 53 = .ok (.invokespecial 31, 3) := by decide +kernel
theorem dX5_init_56 : decode cX5_init 56 = .ok (.putfield 32, 3) := by decide +kernel
theorem dX5_init_59 : decode cX5_init 59 = .ok (.aload_n 0, 1) := by decide +kernel
theorem dX5_init_60 : decode cX5_init 60 = .ok (.iconst 0, 1) := by decide +kernel
theorem dX5_init_61 : decode cX5_init 61 = .ok (.putfield 36, 3) := by decide +kernel
theorem dX5_init_64 : decode cX5_init 64 = .ok (.return_, 1) := by decide +kernel
theorem dX5_addBlock_0 : decode cX5_addBlock 0 = .ok (.aload_n 0, 1) := by decide +kernel
theorem dX5_addBlock_1 : decode cX5_addBlock 1 = .ok (.getfield 12, 3) := by decide +kernel
theorem dX5_addBlock_4 : decode cX5_addBlock 4 = .ok (.invokevirtual 40, 3) := by decide +kernel
theorem dX5_addBlock_7 : decode cX5_addBlock 7 = .ok (.ifCond .ne 14, 3) := by decide +kernel
theorem dX5_addBlock_10 : decode cX5_addBlock 10 = .ok (.bipush (-100), 2) := by decide +kernel
theorem dX5_addBlock_12 : decode cX5_addBlock 12 = .ok (.aload_n 0, 1) := by decide +kernel
theorem dX5_addBlock_13 : decode cX5_addBlock 13 = .ok (.getfield 12, 3) := by decide +kernel
theorem dX5_addBlock_16 : decode cX5_addBlock 16 = .ok (.getfield 44, 3) := by decide +kernel
theorem dX5_addBlock_19 : decode cX5_addBlock 19 = .ok (.isub, 1) := by decide +kernel
theorem dX5_addBlock_20 : decode cX5_addBlock 20 = .ok (.ireturn, 1) := by decide +kernel
theorem dX5_addBlock_21 : decode cX5_addBlock 21 = .ok (.aload_n 0, 1) := by decide +kernel
theorem dX5_addBlock_22 : decode cX5_addBlock 22 = .ok (.getfield 12, 3) := by decide +kernel
theorem dX5_addBlock_25 : decode cX5_addBlock 25 = .ok (.invokevirtual 48, 3) := by decide +kernel
theorem dX5_addBlock_28 : decode cX5_addBlock 28 = .ok (.ifCond .ne 6, 3) := by decide +kernel
theorem dX5_addBlock_31 : decode cX5_addBlock 31 = .ok (.bipush (-2), 2) := by decide +kernel
theorem dX5_addBlock_33 : decode cX5_addBlock 33 = .ok (.ireturn, 1) := by decide +kernel
theorem dX5_addBlock_34 : decode cX5_addBlock 34 = .ok (.aload_n 0, 1) := by decide +kernel
theorem dX5_addBlock_35 : decode cX5_addBlock 35 = .ok (.getfield 19, 3) := by decide +kernel
theorem dX5_addBlock_38 : decode cX5_addBlock 38 = .ok (.getfield 51, 3) := by decide +kernel
theorem dX5_addBlock_41 : decode cX5_addBlock 41 = .ok (.bipush 8, 2) := by decide +kernel
theorem dX5_addBlock_43 : decode cX5_addBlock 43 = .ok (.if_icmp .lt 6, 3) := by decide +kernel
theorem dX5_addBlock_46 : decode cX5_addBlock 46 = .ok (.bipush (-3), 2) := by decide +kernel
theorem dX5_addBlock_48 : decode cX5_addBlock 48 = .ok (.ireturn, 1) := by decide +kernel
theorem dX5_addBlock_49 : decode cX5_addBlock 49 = .ok (.aload_n 0, 1) := by decide +kernel
theorem dX5_addBlock_50 : decode cX5_addBlock 50 = .ok (.getfield 32, 3) := by decide +kernel
theorem dX5_addBlock_53 : decode cX5_addBlock 53 = .ok (.aload_n 0, 1) := by decide +kernel
theorem dX5_addBlock_54 : decode cX5_addBlock 54 = .ok (.getfield 19, 3) := by decide +kernel
theorem dX5_addBlock_57 : decode cX5_addBlock 57 = .ok (.invokevirtual 54, 3) := by decide +kernel
theorem dX5_addBlock_60 : decode cX5_addBlock 60 = .ok (.aload_n 0, 1) := by decide +kernel
theorem dX5_addBlock_61 : decode cX5_addBlock 61 = .ok (.getfield 19, 3) := by decide +kernel
theorem dX5_addBlock_64 : decode cX5_addBlock 64 = .ok (.aload_n 0, 1) := by decide +kernel
theorem dX5_addBlock_65 : decode cX5_addBlock 65 = .ok (.getfield 12, 3) := by decide +kernel
theorem dX5_addBlock_68 : decode cX5_addBlock 68 = .ok (.invokevirtual 58, 3) := by decide +kernel
theorem dX5_addBlock_71 : decode cX5_addBlock 71 = .ok (.istore_n 1, 1) := by decide +kernel
theorem dX5_addBlock_72 : decode cX5_addBlock 72 = .ok (.aload_n 0, 1) := by decide +kernel
theorem dX5_addBlock_73 : decode cX5_addBlock 73 = .ok (.getfield 19, 3) := by decide +kernel
theorem dX5_addBlock_76 : decode cX5_addBlock 76 = .ok (.invokevirtual 62, 3) := by decide +kernel
theorem dX5_addBlock_79 : decode cX5_addBlock 79 = .ok (.iload_n 1, 1) := by decide +kernel
theorem dX5_addBlock_80 : decode cX5_addBlock 80 = .ok (.ireturn, 1) := by decide +kernel
theorem dX5_ask_0 : decode cX5_ask 0 = .ok (.iload_n 1, 1) := by decide +kernel
theorem dX5_ask_1 : decode cX5_ask 1 = .ok (.iconst 0, 1) := by decide +kernel
theorem dX5_ask_2 : decode cX5_ask 2 = .ok (.iconst 4, 1) := by decide +kernel
theorem dX5_ask_3 : decode cX5_ask 3 = .ok (.invokestatic 120, 3) := by decide +kernel
theorem dX5_ask_6 : decode cX5_ask 6 = .ok (.ifCond .eq 48, 3) := by decide +kernel
theorem dX5_ask_9 : decode cX5_ask 9 = .ok (.iload_n 2, 1) := by decide +kernel
theorem dX5_ask_10 : decode cX5_ask 10 = .ok (.iconst 1, 1) := by decide +kernel
theorem dX5_ask_11 : decode cX5_ask 11 = .ok (.bipush 15, 2) := by decide +kernel
theorem dX5_ask_13 : decode cX5_ask 13 = .ok (.invokestatic 120, 3) := by decide +kernel
theorem dX5_ask_16 : decode cX5_ask 16 = .ok (.ifCond .eq 38, 3) := by decide +kernel
theorem dX5_ask_19 : decode cX5_ask 19 = .ok (.iload_n 3, 1) := by decide +kernel
theorem dX5_ask_20 : decode cX5_ask 20 = .ok (.iconst 0, 1) := by decide +kernel
theorem dX5_ask_21 : decode cX5_ask 21 = .ok (.iload_n 1, 1) := by decide +kernel
theorem dX5_ask_22 : decode cX5_ask 22 = .ok (.iconst 1, 1) := by decide +kernel
theorem dX5_ask_23 : decode cX5_ask 23 = .ok (.if_icmp .ne 9, 3) := by decide +kernel
theorem dX5_ask_26 : decode cX5_ask 26 = .ok (.sipush 999, 3) := by decide +kernel
theorem dX5_ask_29 : decode cX5_ask 29 = .ok (.goto 4, 3) := by decide +kernel
theorem dX5_ask_32 : decode cX5_ask 32 = .ok (.iconst 0, 1) := by decide +kernel
theorem dX5_ask_33 : decode cX5_ask 33 = .ok (.invokestatic 120, 3) := by decide +kernel
theorem dX5_ask_36 : decode cX5_ask 36 = .ok (.ifCond .eq 18, 3) := by decide +kernel
theorem dX5_ask_39 : decode cX5_ask 39 = .ok (.iload 4, 2) := by decide +kernel
theorem dX5_ask_41 : decode cX5_ask 41 = .ok (.iconst 0, 1) := by decide +kernel
theorem dX5_ask_42 : decode cX5_ask 42 = .ok (.ldc 124, 2) := by decide +kernel
theorem dX5_ask_44 : decode cX5_ask 44 = .ok (.invokestatic 120, 3) := by decide +kernel
theorem dX5_ask_47 : decode cX5_ask 47 = .ok (.ifCond .eq 7, 3) := by decide +kernel
theorem dX5_ask_50 : decode cX5_ask 50 = .ok (.iconst 1, 1) := by decide +kernel
theorem dX5_ask_51 : decode cX5_ask 51 = .ok (.goto 4, 3) := by decide +kernel
theorem dX5_ask_54 : decode cX5_ask 54 = .ok (.iconst 0, 1) := by decide +kernel
theorem dX5_ask_55 : decode cX5_ask 55 = .ok (.istore 5, 2) := by decide +kernel
theorem dX5_ask_57 : decode cX5_ask 57 = .ok (.iload 5, 2) := by decide +kernel
theorem dX5_ask_59 : decode cX5_ask 59 = .ok (.ifCond .ne 6, 3) := by decide +kernel
theorem dX5_ask_62 : decode cX5_ask 62 = .ok (.bipush (-2), 2) := by decide +kernel
theorem dX5_ask_64 : decode cX5_ask 64 = .ok (.ireturn, 1) := by decide +kernel
theorem dX5_ask_65 : decode cX5_ask 65 = .ok (.aload_n 0, 1) := by decide +kernel
theorem dX5_ask_66 : decode cX5_ask 66 = .ok (.getfield 19, 3) := by decide +kernel
theorem dX5_ask_69 : decode cX5_ask 69 = .ok (.getfield 125, 3) := by decide +kernel
theorem dX5_ask_72 : decode cX5_ask 72 = .ok (.bipush 6, 2) := by decide +kernel
theorem dX5_ask_74 : decode cX5_ask 74 = .ok (.if_icmp .lt 6, 3) := by decide +kernel
theorem dX5_ask_77 : decode cX5_ask 77 = .ok (.bipush (-3), 2) := by decide +kernel
theorem dX5_ask_79 : decode cX5_ask 79 = .ok (.ireturn, 1) := by decide +kernel
theorem dX5_ask_80 : decode cX5_ask 80 = .ok (.aload_n 0, 1) := by decide +kernel
theorem dX5_ask_81 : decode cX5_ask 81 = .ok (.getfield 32, 3) := by decide +kernel
theorem dX5_ask_84 : decode cX5_ask 84 = .ok (.aload_n 0, 1) := by decide +kernel
theorem dX5_ask_85 : decode cX5_ask 85 = .ok (.getfield 19, 3) := by decide +kernel
theorem dX5_ask_88 : decode cX5_ask 88 = .ok (.invokevirtual 54, 3) := by decide +kernel
theorem dX5_ask_91 : decode cX5_ask 91 = .ok (.aload_n 0, 1) := by decide +kernel
theorem dX5_ask_92 : decode cX5_ask 92 = .ok (.getfield 19, 3) := by decide +kernel
theorem dX5_ask_95 : decode cX5_ask 95 = .ok (.iload_n 1, 1) := by decide +kernel
theorem dX5_ask_96 : decode cX5_ask 96 = .ok (.iload_n 2, 1) := by decide +kernel
theorem dX5_ask_97 : decode cX5_ask 97 = .ok (.iload_n 3, 1) := by decide +kernel
theorem dX5_ask_98 : decode cX5_ask 98 = .ok (.iload 4, 2) := by decide +kernel
theorem dX5_ask_100 : decode cX5_ask 100 = .ok (.invokevirtual 128, 3) := by decide +kernel
theorem dX5_ask_103 : decode cX5_ask 103 = .ok (.istore 6, 2) := by decide +kernel
theorem dX5_ask_105 : decode cX5_ask 105 = .ok (.aload_n 0, 1) := by decide +kernel
theorem dX5_ask_106 : decode cX5_ask 106 = .ok (.getfield 19, 3) := by decide +kernel
theorem dX5_ask_109 : decode cX5_ask 109 = .ok (.invokevirtual 62, 3) := by decide +kernel
theorem dX5_ask_112 : decode cX5_ask 112 = .ok (.iload 6, 2) := by decide +kernel
theorem dX5_ask_114 : decode cX5_ask 114 = .ok (.ireturn, 1) := by decide +kernel
theorem dX5_setPlan_0 : decode cX5_setPlan 0 = .ok (.iload_n 1, 1) := by decide +kernel
theorem dX5_setPlan_1 : decode cX5_setPlan 1 = .ok (.iconst 0, 1) := by decide +kernel
theorem dX5_setPlan_2 : decode cX5_setPlan 2 = .ok (.iconst 2, 1) := by decide +kernel
theorem dX5_setPlan_3 : decode cX5_setPlan 3 = .ok (.invokestatic 120, 3) := by decide +kernel
theorem dX5_setPlan_6 : decode cX5_setPlan 6 = .ok (.ifCond .ne 6, 3) := by decide +kernel
theorem dX5_setPlan_9 : decode cX5_setPlan 9 = .ok (.bipush (-2), 2) := by decide +kernel
theorem dX5_setPlan_11 : decode cX5_setPlan 11 = .ok (.ireturn, 1) := by decide +kernel
theorem dX5_setPlan_12 : decode cX5_setPlan 12 = .ok (.aload_n 0, 1) := by decide +kernel
theorem dX5_setPlan_13 : decode cX5_setPlan 13 = .ok (.getfield 19, 3) := by decide +kernel
theorem dX5_setPlan_16 : decode cX5_setPlan 16 = .ok (.getfield 165, 3) := by decide +kernel
theorem dX5_setPlan_19 : decode cX5_setPlan 19 = .ok (.istore_n 2, 1) := by decide +kernel
theorem dX5_setPlan_20 : decode cX5_setPlan 20 = .ok (.iload_n 2, 1) := by decide +kernel
theorem dX5_setPlan_21 : decode cX5_setPlan 21 = .ok (.iload_n 1, 1) := by decide +kernel
theorem dX5_setPlan_22 : decode cX5_setPlan 22 = .ok (.if_icmp .ne 6, 3) := by decide +kernel
theorem dX5_setPlan_25 : decode cX5_setPlan 25 = .ok (.bipush (-5), 2) := by decide +kernel
theorem dX5_setPlan_27 : decode cX5_setPlan 27 = .ok (.ireturn, 1) := by decide +kernel
theorem dX5_setPlan_28 : decode cX5_setPlan 28 = .ok (.aload_n 0, 1) := by decide +kernel
theorem dX5_setPlan_29 : decode cX5_setPlan 29 = .ok (.getfield 32, 3) := by decide +kernel
theorem dX5_setPlan_32 : decode cX5_setPlan 32 = .ok (.aload_n 0, 1) := by decide +kernel
theorem dX5_setPlan_33 : decode cX5_setPlan 33 = .ok (.getfield 19, 3) := by decide +kernel
theorem dX5_setPlan_36 : decode cX5_setPlan 36 = .ok (.invokevirtual 54, 3) := by decide +kernel
theorem dX5_setPlan_39 : decode cX5_setPlan 39 = .ok (.aload_n 0, 1) := by decide +kernel
theorem dX5_setPlan_40 : decode cX5_setPlan 40 = .ok (.getfield 19, 3) := by decide +kernel
theorem dX5_setPlan_43 : decode cX5_setPlan 43 = .ok (.iload_n 1, 1) := by decide +kernel
theorem dX5_setPlan_44 : decode cX5_setPlan 44 = .ok (.putfield 165, 3) := by decide +kernel
theorem dX5_setPlan_47 : decode cX5_setPlan 47 = .ok (.aload_n 0, 1) := by decide +kernel
theorem dX5_setPlan_48 : decode cX5_setPlan 48 = .ok (.getfield 19, 3) := by decide +kernel
theorem dX5_setPlan_51 : decode cX5_setPlan 51 = .ok (.invokevirtual 62, 3) := by decide +kernel
theorem dX5_setPlan_54 : decode cX5_setPlan 54 = .ok (.iload_n 2, 1) := by decide +kernel
theorem dX5_setPlan_55 : decode cX5_setPlan 55 = .ok (.ireturn, 1) := by decide +kernel
theorem dX5_read_0 : decode cX5_read 0 = .ok (.iload_n 1, 1) := by decide +kernel
theorem dX5_read_1 : decode cX5_read 1 = .ok (.iconst 1, 1) := by decide +kernel
theorem dX5_read_2 : decode cX5_read 2 = .ok (.sipush 128, 3) := by decide +kernel
theorem dX5_read_5 : decode cX5_read 5 = .ok (.invokestatic 120, 3) := by decide +kernel
theorem dX5_read_8 : decode cX5_read 8 = .ok (.ifCond .ne 6, 3) := by decide +kernel
theorem dX5_read_11 : decode cX5_read 11 = .ok (.bipush (-2), 2) := by decide +kernel
theorem dX5_read_13 : decode cX5_read 13 = .ok (.ireturn, 1) := by decide +kernel
theorem dX5_read_14 : decode cX5_read 14 = .ok (.aload_n 0, 1) := by decide +kernel
theorem dX5_read_15 : decode cX5_read 15 = .ok (.getfield 19, 3) := by decide +kernel
theorem dX5_read_18 : decode cX5_read 18 = .ok (.invokevirtual 168, 3) := by decide +kernel
theorem dX5_read_21 : decode cX5_read 21 = .ok (.bipush (-5), 2) := by decide +kernel
theorem dX5_read_23 : decode cX5_read 23 = .ok (.if_icmp .ne 6, 3) := by decide +kernel
theorem dX5_read_26 : decode cX5_read 26 = .ok (.bipush (-5), 2) := by decide +kernel
theorem dX5_read_28 : decode cX5_read 28 = .ok (.ireturn, 1) := by decide +kernel
theorem dX5_read_29 : decode cX5_read 29 = .ok (.aload_n 0, 1) := by decide +kernel
theorem dX5_read_30 : decode cX5_read 30 = .ok (.getfield 32, 3) := by decide +kernel
theorem dX5_read_33 : decode cX5_read 33 = .ok (.aload_n 0, 1) := by decide +kernel
theorem dX5_read_34 : decode cX5_read 34 = .ok (.getfield 19, 3) := by decide +kernel
theorem dX5_read_37 : decode cX5_read 37 = .ok (.invokevirtual 54, 3) := by decide +kernel
theorem dX5_read_40 : decode cX5_read 40 = .ok (.iconst 0, 1) := by decide +kernel
theorem dX5_read_41 : decode cX5_read 41 = .ok (.istore_n 2, 1) := by decide +kernel
theorem dX5_read_42 : decode cX5_read 42 = .ok (.iconst 0, 1) := by decide +kernel
theorem dX5_read_43 : decode cX5_read 43 = .ok (.istore_n 3, 1) := by decide +kernel
theorem dX5_read_44 : decode cX5_read 44 = .ok (.iload_n 3, 1) := by decide +kernel
theorem dX5_read_45 : decode cX5_read 45 = .ok (.iload_n 1, 1) := by decide +kernel
theorem dX5_read_46 : decode cX5_read 46 = .ok (.if_icmp .ge 22, 3) := by decide +kernel
theorem dX5_read_49 : decode cX5_read 49 = .ok (.aload_n 0, 1) := by decide +kernel
theorem dX5_read_50 : decode cX5_read 50 = .ok (.getfield 19, 3) := by decide +kernel
theorem dX5_read_53 : decode cX5_read 53 = .ok (.invokevirtual 171, 3) := by decide +kernel
theorem dX5_read_56 : decode cX5_read 56 = .ok (.ifCond .eq 12, 3) := by decide +kernel
theorem dX5_read_59 : decode cX5_read 59 = .ok (.iinc 2 1, 3) := by decide +kernel
theorem dX5_read_62 : decode cX5_read 62 = .ok (.iinc 3 1, 3) := by decide +kernel
theorem dX5_read_65 : decode cX5_read 65 = .ok (.goto (-21), 3) := by decide +kernel
theorem dX5_read_68 : decode cX5_read 68 = .ok (.iload_n 2, 1) := by decide +kernel
theorem dX5_read_69 : decode cX5_read 69 = .ok (.ireturn, 1) := by decide +kernel
theorem dX5_readOn_0 : decode cX5_readOn 0 = .ok (.aload_n 0, 1) := by decide +kernel
theorem dX5_readOn_1 : decode cX5_readOn 1 = .ok (.getfield 19, 3) := by decide +kernel
theorem dX5_readOn_4 : decode cX5_readOn 4 = .ok (.invokevirtual 174, 3) := by decide +kernel
theorem dX5_readOn_7 : decode cX5_readOn 7 = .ok (.ifCond .ne 6, 3) := by decide +kernel
theorem dX5_readOn_10 : decode cX5_readOn 10 = .ok (.bipush (-4), 2) := by decide +kernel
theorem dX5_readOn_12 : decode cX5_readOn 12 = .ok (.ireturn, 1) := by decide +kernel
theorem dX5_readOn_13 : decode cX5_readOn 13 = .ok (.aload_n 0, 1) := by decide +kernel
theorem dX5_readOn_14 : decode cX5_readOn 14 = .ok (.getfield 19, 3) := by decide +kernel
theorem dX5_readOn_17 : decode cX5_readOn 17 = .ok (.invokevirtual 168, 3) := by decide +kernel
theorem dX5_readOn_20 : decode cX5_readOn 20 = .ok (.bipush (-5), 2) := by decide +kernel
theorem dX5_readOn_22 : decode cX5_readOn 22 = .ok (.if_icmp .ne 6, 3) := by decide +kernel
theorem dX5_readOn_25 : decode cX5_readOn 25 = .ok (.bipush (-5), 2) := by decide +kernel
theorem dX5_readOn_27 : decode cX5_readOn 27 = .ok (.ireturn, 1) := by decide +kernel
theorem dX5_readOn_28 : decode cX5_readOn 28 = .ok (.aload_n 0, 1) := by decide +kernel
theorem dX5_readOn_29 : decode cX5_readOn 29 = .ok (.getfield 32, 3) := by decide +kernel
theorem dX5_readOn_32 : decode cX5_readOn 32 = .ok (.aload_n 0, 1) := by decide +kernel
theorem dX5_readOn_33 : decode cX5_readOn 33 = .ok (.getfield 19, 3) := by decide +kernel
theorem dX5_readOn_36 : decode cX5_readOn 36 = .ok (.invokevirtual 54, 3) := by decide +kernel
theorem dX5_readOn_39 : decode cX5_readOn 39 = .ok (.aload_n 0, 1) := by decide +kernel
theorem dX5_readOn_40 : decode cX5_readOn 40 = .ok (.getfield 19, 3) := by decide +kernel
theorem dX5_readOn_43 : decode cX5_readOn 43 = .ok (.invokevirtual 177, 3) := by decide +kernel
theorem dX5_readOn_46 : decode cX5_readOn 46 = .ok (.ireturn, 1) := by decide +kernel
theorem dX5_type_0 : decode cX5_type 0 = .ok (.aload_n 0, 1) := by decide +kernel
theorem dX5_type_1 : decode cX5_type 1 = .ok (.getfield 12, 3) := by decide +kernel
theorem dX5_type_4 : decode cX5_type 4 = .ok (.getfield 186, 3) := by decide +kernel
theorem dX5_type_7 : decode cX5_type 7 = .ok (.bipush 80, 2) := by decide +kernel
theorem dX5_type_9 : decode cX5_type 9 = .ok (.if_icmp .lt 6, 3) := by decide +kernel
theorem dX5_type_12 : decode cX5_type 12 = .ok (.bipush (-3), 2) := by decide +kernel
theorem dX5_type_14 : decode cX5_type 14 = .ok (.ireturn, 1) := by decide +kernel
theorem dX5_type_15 : decode cX5_type 15 = .ok (.aload_n 0, 1) := by decide +kernel
theorem dX5_type_16 : decode cX5_type 16 = .ok (.getfield 12, 3) := by decide +kernel
theorem dX5_type_19 : decode cX5_type 19 = .ok (.iload_n 1, 1) := by decide +kernel
theorem dX5_type_20 : decode cX5_type 20 = .ok (.invokevirtual 189, 3) := by decide +kernel
theorem dX5_type_23 : decode cX5_type 23 = .ok (.aload_n 0, 1) := by decide +kernel
theorem dX5_type_24 : decode cX5_type 24 = .ok (.getfield 12, 3) := by decide +kernel
theorem dX5_type_27 : decode cX5_type 27 = .ok (.getfield 186, 3) := by decide +kernel
theorem dX5_type_30 : decode cX5_type 30 = .ok (.ireturn, 1) := by decide +kernel
theorem dX5_clearText_0 : decode cX5_clearText 0 = .ok (.aload_n 0, 1) := by decide +kernel
theorem dX5_clearText_1 : decode cX5_clearText 1 = .ok (.getfield 12, 3) := by decide +kernel
theorem dX5_clearText_4 : decode cX5_clearText 4 = .ok (.getfield 186, 3) := by decide +kernel
theorem dX5_clearText_7 : decode cX5_clearText 7 = .ok (.istore_n 1, 1) := by decide +kernel
theorem dX5_clearText_8 : decode cX5_clearText 8 = .ok (.aload_n 0, 1) := by decide +kernel
theorem dX5_clearText_9 : decode cX5_clearText 9 = .ok (.getfield 12, 3) := by decide +kernel
theorem dX5_clearText_12 : decode cX5_clearText 12 = .ok (.iconst 0, 1) := by decide +kernel
theorem dX5_clearText_13 : decode cX5_clearText 13 = .ok (.putfield 186, 3) := by decide +kernel
theorem dX5_clearText_16 : decode cX5_clearText 16 = .ok (.iload_n 1, 1) := by decide +kernel
theorem dX5_clearText_17 : decode cX5_clearText 17 = .ok (.ireturn, 1) := by decide +kernel
theorem dX5_block_0 : decode cX5_block 0 = .ok (.aload_n 0, 1) := by decide +kernel
theorem dX5_block_1 : decode cX5_block 1 = .ok (.getfield 19, 3) := by decide +kernel
theorem dX5_block_4 : decode cX5_block 4 = .ok (.iload_n 1, 1) := by decide +kernel
theorem dX5_block_5 : decode cX5_block 5 = .ok (.invokevirtual 65, 3) := by decide +kernel
theorem dX5_block_8 : decode cX5_block 8 = .ok (.ifCond .ne 5, 3) := by decide +kernel
theorem dX5_block_11 : decode cX5_block 11 = .ok (.iconst (-1), 1) := by decide +kernel
theorem dX5_block_12 : decode cX5_block 12 = .ok (.ireturn, 1) := by decide +kernel
theorem dX5_block_13 : decode cX5_block 13 = .ok (.aload_n 0, 1) := by decide +kernel
theorem dX5_block_14 : decode cX5_block 14 = .ok (.getfield 19, 3) := by decide +kernel
theorem dX5_block_17 : decode cX5_block 17 = .ok (.getfield 69, 3) := by decide +kernel
theorem dX5_block_20 : decode cX5_block 20 = .ok (.iload_n 1, 1) := by decide +kernel
theorem dX5_block_21 : decode cX5_block 21 = .ok (.aaload, 1) := by decide +kernel
theorem dX5_block_22 : decode cX5_block 22 = .ok (.astore_n 3, 1) := by decide +kernel
theorem dX5_block_23 : decode cX5_block 23 = .ok (.iload_n 2, 1) := by decide +kernel
theorem dX5_block_24 : decode cX5_block 24 = .ok (.tableswitch 83 0 6 #[44, 49, 54, 59, 64, 69, 78], 44) := by decide +kernel
theorem dX5_block_68 : decode cX5_block 68 = .ok (.aload_n 3, 1) := by decide +kernel
theorem dX5_block_69 : decode cX5_block 69 = .ok (.getfield 201, 3) := by decide +kernel
theorem dX5_block_72 : decode cX5_block 72 = .ok (.ireturn, 1) := by decide +kernel
theorem dX5_block_73 : decode cX5_block 73 = .ok (.aload_n 3, 1) := by decide +kernel
theorem dX5_block_74 : decode cX5_block 74 = .ok (.getfield 110, 3) := by decide +kernel
theorem dX5_block_77 : decode cX5_block 77 = .ok (.ireturn, 1) := by decide +kernel
theorem dX5_block_78 : decode cX5_block 78 = .ok (.aload_n 3, 1) := by decide +kernel
theorem dX5_block_79 : decode cX5_block 79 = .ok (.getfield 107, 3) := by decide +kernel
theorem dX5_block_82 : decode cX5_block 82 = .ok (.ireturn, 1) := by decide +kernel
theorem dX5_block_83 : decode cX5_block 83 = .ok (.aload_n 3, 1) := by decide +kernel
theorem dX5_block_84 : decode cX5_block 84 = .ok (.getfield 78, 3) := by decide +kernel
theorem dX5_block_87 : decode cX5_block 87 = .ok (.ireturn, 1) := by decide +kernel
theorem dX5_block_88 : decode cX5_block 88 = .ok (.aload_n 3, 1) := by decide +kernel
theorem dX5_block_89 : decode cX5_block 89 = .ok (.getfield 97, 3) := by decide +kernel
theorem dX5_block_92 : decode cX5_block 92 = .ok (.ireturn, 1) := by decide +kernel
theorem dX5_block_93 : decode cX5_block 93 = .ok (.aload_n 0, 1) := by decide +kernel
theorem dX5_block_94 : decode cX5_block 94 = .ok (.getfield 19, 3) := by decide +kernel
theorem dX5_block_97 : decode cX5_block 97 = .ok (.aload_n 3, 1) := by decide +kernel
theorem dX5_block_98 : decode cX5_block 98 = .ok (.invokevirtual 204, 3) := by decide +kernel
theorem dX5_block_101 : decode cX5_block 101 = .ok (.ireturn, 1) := by decide +kernel
theorem dX5_block_102 : decode cX5_block 102 = .ok (.aload_n 3, 1) := by decide +kernel
theorem dX5_block_103 : decode cX5_block 103 = .ok (.getfield 208, 3) := by decide +kernel
theorem dX5_block_106 : decode cX5_block 106 = .ok (.ireturn, 1) := by decide +kernel
theorem dX5_block_107 : decode cX5_block 107 = .ok (.bipush (-2), 2) := by decide +kernel
theorem dX5_block_109 : decode cX5_block 109 = .ok (.ireturn, 1) := by decide +kernel
theorem dX5_value_0 : decode cX5_value 0 = .ok (.aload_n 0, 1) := by decide +kernel
theorem dX5_value_1 : decode cX5_value 1 = .ok (.getfield 19, 3) := by decide +kernel
theorem dX5_value_4 : decode cX5_value 4 = .ok (.iload_n 1, 1) := by decide +kernel
theorem dX5_value_5 : decode cX5_value 5 = .ok (.iload_n 2, 1) := by decide +kernel
theorem dX5_value_6 : decode cX5_value 6 = .ok (.invokevirtual 85, 3) := by decide +kernel
theorem dX5_value_9 : decode cX5_value 9 = .ok (.ifCond .ne 5, 3) := by decide +kernel
theorem dX5_value_12 : decode cX5_value 12 = .ok (.iconst (-1), 1) := by decide +kernel
theorem dX5_value_13 : decode cX5_value 13 = .ok (.ireturn, 1) := by decide +kernel
theorem dX5_value_14 : decode cX5_value 14 = .ok (.aload_n 0, 1) := by decide +kernel
theorem dX5_value_15 : decode cX5_value 15 = .ok (.getfield 19, 3) := by decide +kernel
theorem dX5_value_18 : decode cX5_value 18 = .ok (.getfield 69, 3) := by decide +kernel
theorem dX5_value_21 : decode cX5_value 21 = .ok (.iload_n 1, 1) := by decide +kernel
theorem dX5_value_22 : decode cX5_value 22 = .ok (.aaload, 1) := by decide +kernel
theorem dX5_value_23 : decode cX5_value 23 = .ok (.astore_n 3, 1) := by decide +kernel
theorem dX5_value_24 : decode cX5_value 24 = .ok (.iload_n 2, 1) := by decide +kernel
theorem dX5_value_25 : decode cX5_value 25 = .ok (.aload_n 3, 1) := by decide +kernel
theorem dX5_value_26 : decode cX5_value 26 = .ok (.getfield 97, 3) := by decide +kernel
theorem dX5_value_29 : decode cX5_value 29 = .ok (.if_icmp .ge 12, 3) := by decide +kernel
theorem dX5_value_32 : decode cX5_value 32 = .ok (.aload_n 3, 1) := by decide +kernel
theorem dX5_value_33 : decode cX5_value 33 = .ok (.getfield 89, 3) := by decide +kernel
theorem dX5_value_36 : decode cX5_value 36 = .ok (.iload_n 2, 1) := by decide +kernel
theorem dX5_value_37 : decode cX5_value 37 = .ok (.iaload, 1) := by decide +kernel
theorem dX5_value_38 : decode cX5_value 38 = .ok (.goto 5, 3) := by decide +kernel
theorem dX5_value_41 : decode cX5_value 41 = .ok (.bipush (-4), 2) := by decide +kernel
theorem dX5_value_43 : decode cX5_value 43 = .ok (.ireturn, 1) := by decide +kernel
theorem dX5_question_0 : decode cX5_question 0 = .ok (.aload_n 0, 1) := by decide +kernel
theorem dX5_question_1 : decode cX5_question 1 = .ok (.getfield 19, 3) := by decide +kernel
theorem dX5_question_4 : decode cX5_question 4 = .ok (.iload_n 1, 1) := by decide +kernel
theorem dX5_question_5 : decode cX5_question 5 = .ok (.invokevirtual 132, 3) := by decide +kernel
theorem dX5_question_8 : decode cX5_question 8 = .ok (.ifCond .ne 5, 3) := by decide +kernel
theorem dX5_question_11 : decode cX5_question 11 = .ok (.iconst (-1), 1) := by decide +kernel
theorem dX5_question_12 : decode cX5_question 12 = .ok (.ireturn, 1) := by decide +kernel
theorem dX5_question_13 : decode cX5_question 13 = .ok (.aload_n 0, 1) := by decide +kernel
theorem dX5_question_14 : decode cX5_question 14 = .ok (.getfield 19, 3) := by decide +kernel
theorem dX5_question_17 : decode cX5_question 17 = .ok (.getfield 135, 3) := by decide +kernel
theorem dX5_question_20 : decode cX5_question 20 = .ok (.iload_n 1, 1) := by decide +kernel
theorem dX5_question_21 : decode cX5_question 21 = .ok (.aaload, 1) := by decide +kernel
theorem dX5_question_22 : decode cX5_question 22 = .ok (.astore_n 3, 1) := by decide +kernel
theorem dX5_question_23 : decode cX5_question 23 = .ok (.iload_n 2, 1) := by decide +kernel
theorem dX5_question_24 : decode cX5_question 24 = .ok (.tableswitch 206 0 12 #[68, 73, 78, 83, 88, 101, 111, 121, 131, 148, 165, 182, 194], 68) := by decide +kernel
theorem dX5_question_92 : decode cX5_question 92 = .ok (.aload_n 3, 1) := by decide +kernel
theorem dX5_question_93 : decode cX5_question 93 = .ok (.getfield 211, 3) := by decide +kernel
theorem dX5_question_96 : decode cX5_question 96 = .ok (.ireturn, 1) := by decide +kernel
theorem dX5_question_97 : decode cX5_question 97 = .ok (.aload_n 3, 1) := by decide +kernel
theorem dX5_question_98 : decode cX5_question 98 = .ok (.getfield 147, 3) := by decide +kernel
theorem dX5_question_101 : decode cX5_question 101 = .ok (.ireturn, 1) := by decide +kernel
theorem dX5_question_102 : decode cX5_question 102 = .ok (.aload_n 3, 1) := by decide +kernel
theorem dX5_question_103 : decode cX5_question 103 = .ok (.getfield 214, 3) := by decide +kernel
theorem dX5_question_106 : decode cX5_question 106 = .ok (.ireturn, 1) := by decide +kernel
theorem dX5_question_107 : decode cX5_question 107 = .ok (.aload_n 3, 1) := by decide +kernel
theorem dX5_question_108 : decode cX5_question 108 = .ok (.getfield 144, 3) := by decide +kernel
theorem dX5_question_111 : decode cX5_question 111 = .ok (.ireturn, 1) := by decide +kernel
theorem dX5_question_112 : decode cX5_question 112 = .ok (.aload_n 3, 1) := by decide +kernel
theorem dX5_question_113 : decode cX5_question 113 = .ok (.getfield 139, 3) := by decide +kernel
theorem dX5_question_116 : decode cX5_question 116 = .ok (.ifCond .eq 7, 3) := by decide +kernel
theorem dX5_question_119 : decode cX5_question 119 = .ok (.iconst 1, 1) := by decide +kernel
theorem dX5_question_120 : decode cX5_question 120 = .ok (.goto 4, 3) := by decide +kernel
theorem dX5_question_123 : decode cX5_question 123 = .ok (.iconst 0, 1) := by decide +kernel
theorem dX5_question_124 : decode cX5_question 124 = .ok (.ireturn, 1) := by decide +kernel
theorem dX5_question_125 : decode cX5_question 125 = .ok (.aload_n 0, 1) := by decide +kernel
theorem dX5_question_126 : decode cX5_question 126 = .ok (.getfield 19, 3) := by decide +kernel
theorem dX5_question_129 : decode cX5_question 129 = .ok (.aload_n 3, 1) := by decide +kernel
theorem dX5_question_130 : decode cX5_question 130 = .ok (.iconst 0, 1) := by decide +kernel
theorem dX5_question_131 : decode cX5_question 131 = .ok (.invokevirtual 152, 3) := by decide +kernel
theorem dX5_question_134 : decode cX5_question 134 = .ok (.ireturn, 1) := by decide +kernel
theorem dX5_question_135 : decode cX5_question 135 = .ok (.aload_n 0, 1) := by decide +kernel
theorem dX5_question_136 : decode cX5_question 136 = .ok (.getfield 19, 3) := by decide +kernel
theorem dX5_question_139 : decode cX5_question 139 = .ok (.aload_n 3, 1) := by decide +kernel
theorem dX5_question_140 : decode cX5_question 140 = .ok (.iconst 1, 1) := by decide +kernel
theorem dX5_question_141 : decode cX5_question 141 = .ok (.invokevirtual 152, 3) := by decide +kernel
theorem dX5_question_144 : decode cX5_question 144 = .ok (.ireturn, 1) := by decide +kernel
theorem dX5_question_145 : decode cX5_question 145 = .ok (.aload_n 0, 1) := by decide +kernel
theorem dX5_question_146 : decode cX5_question 146 = .ok (.getfield 19, 3) := by decide +kernel
theorem dX5_question_149 : decode cX5_question 149 = .ok (.aload_n 3, 1) := by decide +kernel
theorem dX5_question_150 : decode cX5_question 150 = .ok (.iconst 2, 1) := by decide +kernel
theorem dX5_question_151 : decode cX5_question 151 = .ok (.invokevirtual 152, 3) := by decide +kernel
theorem dX5_question_154 : decode cX5_question 154 = .ok (.ireturn, 1) := by decide +kernel
theorem dX5_question_155 : decode cX5_question 155 = .ok (.aload_n 3, 1) := by decide +kernel
theorem dX5_question_156 : decode cX5_question 156 = .ok (.getfield 139, 3) := by decide +kernel
theorem dX5_question_159 : decode cX5_question 159 = .ok (.ifCond .eq 10, 3) := by decide +kernel
theorem dX5_question_162 : decode cX5_question 162 = .ok (.aload_n 3, 1) := by decide +kernel
theorem dX5_question_163 : decode cX5_question 163 = .ok (.getfield 217, 3) := by decide +kernel
theorem dX5_question_166 : decode cX5_question 166 = .ok (.goto 5, 3) := by decide +kernel
theorem dX5_question_169 : decode cX5_question 169 = .ok (.bipush (-5), 2) := by decide +kernel
theorem dX5_question_171 : decode cX5_question 171 = .ok (.ireturn, 1) := by decide +kernel
theorem dX5_question_172 : decode cX5_question 172 = .ok (.aload_n 3, 1) := by decide +kernel
theorem dX5_question_173 : decode cX5_question 173 = .ok (.getfield 139, 3) := by decide +kernel
theorem dX5_question_176 : decode cX5_question 176 = .ok (.ifCond .eq 10, 3) := by decide +kernel
theorem dX5_question_179 : decode cX5_question 179 = .ok (.aload_n 3, 1) := by decide +kernel
theorem dX5_question_180 : decode cX5_question 180 = .ok (.getfield 220, 3) := by decide +kernel
theorem dX5_question_183 : decode cX5_question 183 = .ok (.goto 5, 3) := by decide +kernel
theorem dX5_question_186 : decode cX5_question 186 = .ok (.bipush (-5), 2) := by decide +kernel
theorem dX5_question_188 : decode cX5_question 188 = .ok (.ireturn, 1) := by decide +kernel
theorem dX5_question_189 : decode cX5_question 189 = .ok (.aload_n 3, 1) := by decide +kernel
theorem dX5_question_190 : decode cX5_question 190 = .ok (.getfield 139, 3) := by decide +kernel
theorem dX5_question_193 : decode cX5_question 193 = .ok (.ifCond .eq 10, 3) := by decide +kernel
theorem dX5_question_196 : decode cX5_question 196 = .ok (.aload_n 3, 1) := by decide +kernel
theorem dX5_question_197 : decode cX5_question 197 = .ok (.getfield 159, 3) := by decide +kernel
theorem dX5_question_200 : decode cX5_question 200 = .ok (.goto 5, 3) := by decide +kernel
theorem dX5_question_203 : decode cX5_question 203 = .ok (.bipush (-5), 2) := by decide +kernel
theorem dX5_question_205 : decode cX5_question 205 = .ok (.ireturn, 1) := by decide +kernel
theorem dX5_question_206 : decode cX5_question 206 = .ok (.aload_n 0, 1) := by decide +kernel
theorem dX5_question_207 : decode cX5_question 207 = .ok (.getfield 19, 3) := by decide +kernel
theorem dX5_question_210 : decode cX5_question 210 = .ok (.aload_n 3, 1) := by decide +kernel
theorem dX5_question_211 : decode cX5_question 211 = .ok (.getfield 147, 3) := by decide +kernel
theorem dX5_question_214 : decode cX5_question 214 = .ok (.invokevirtual 150, 3) := by decide +kernel
theorem dX5_question_217 : decode cX5_question 217 = .ok (.ireturn, 1) := by decide +kernel
theorem dX5_question_218 : decode cX5_question 218 = .ok (.aload_n 0, 1) := by decide +kernel
theorem dX5_question_219 : decode cX5_question 219 = .ok (.getfield 19, 3) := by decide +kernel
theorem dX5_question_222 : decode cX5_question 222 = .ok (.aload_n 3, 1) := by decide +kernel
theorem dX5_question_223 : decode cX5_question 223 = .ok (.getfield 147, 3) := by decide +kernel
theorem dX5_question_226 : decode cX5_question 226 = .ok (.invokevirtual 113, 3) := by decide +kernel
theorem dX5_question_229 : decode cX5_question 229 = .ok (.ireturn, 1) := by decide +kernel
theorem dX5_question_230 : decode cX5_question 230 = .ok (.bipush (-2), 2) := by decide +kernel
theorem dX5_question_232 : decode cX5_question 232 = .ok (.ireturn, 1) := by decide +kernel
theorem dX5_next_0 : decode cX5_next 0 = .ok (.iload_n 1, 1) := by decide +kernel
theorem dX5_next_1 : decode cX5_next 1 = .ok (.iconst 0, 1) := by decide +kernel
theorem dX5_next_2 : decode cX5_next 2 = .ok (.iconst 1, 1) := by decide +kernel
theorem dX5_next_3 : decode cX5_next 3 = .ok (.invokestatic 120, 3) := by decide +kernel
theorem dX5_next_6 : decode cX5_next 6 = .ok (.ifCond .ne 6, 3) := by decide +kernel
theorem dX5_next_9 : decode cX5_next 9 = .ok (.bipush (-2), 2) := by decide +kernel
theorem dX5_next_11 : decode cX5_next 11 = .ok (.ireturn, 1) := by decide +kernel
theorem dX5_next_12 : decode cX5_next 12 = .ok (.aload_n 0, 1) := by decide +kernel
theorem dX5_next_13 : decode cX5_next 13 = .ok (.getfield 19, 3) := by decide +kernel
theorem dX5_next_16 : decode cX5_next 16 = .ok (.invokevirtual 168, 3) := by decide +kernel
theorem dX5_next_19 : decode cX5_next 19 = .ok (.istore_n 2, 1) := by decide +kernel
theorem dX5_next_20 : decode cX5_next 20 = .ok (.aload_n 0, 1) := by decide +kernel
theorem dX5_next_21 : decode cX5_next 21 = .ok (.getfield 19, 3) := by decide +kernel
theorem dX5_next_24 : decode cX5_next 24 = .ok (.iload_n 2, 1) := by decide +kernel
theorem dX5_next_25 : decode cX5_next 25 = .ok (.invokevirtual 65, 3) := by decide +kernel
theorem dX5_next_28 : decode cX5_next 28 = .ok (.ifCond .ne 6, 3) := by decide +kernel
theorem dX5_next_31 : decode cX5_next 31 = .ok (.bipush (-5), 2) := by decide +kernel
theorem dX5_next_33 : decode cX5_next 33 = .ok (.ireturn, 1) := by decide +kernel
theorem dX5_next_34 : decode cX5_next 34 = .ok (.iload_n 1, 1) := by decide +kernel
theorem dX5_next_35 : decode cX5_next 35 = .ok (.ifCond .ne 7, 3) := by decide +kernel
theorem dX5_next_38 : decode cX5_next 38 = .ok (.iload_n 2, 1) := by decide +kernel
theorem dX5_next_39 : decode cX5_next 39 = .ok (.goto 15, 3) := by decide +kernel
theorem dX5_next_42 : decode cX5_next 42 = .ok (.aload_n 0, 1) := by decide +kernel
theorem dX5_next_43 : decode cX5_next 43 = .ok (.getfield 19, 3) := by decide +kernel
theorem dX5_next_46 : decode cX5_next 46 = .ok (.getfield 69, 3) := by decide +kernel
theorem dX5_next_49 : decode cX5_next 49 = .ok (.iload_n 2, 1) := by decide +kernel
theorem dX5_next_50 : decode cX5_next 50 = .ok (.aaload, 1) := by decide +kernel
theorem dX5_next_51 : decode cX5_next 51 = .ok (.getfield 97, 3) := by decide +kernel
theorem dX5_next_54 : decode cX5_next 54 = .ok (.ireturn, 1) := by decide +kernel
theorem dX5_stopsIn_0 : decode cX5_stopsIn 0 = .ok (.aload_n 0, 1) := by decide +kernel
theorem dX5_stopsIn_1 : decode cX5_stopsIn 1 = .ok (.getfield 19, 3) := by decide +kernel
theorem dX5_stopsIn_4 : decode cX5_stopsIn 4 = .ok (.iload_n 1, 1) := by decide +kernel
theorem dX5_stopsIn_5 : decode cX5_stopsIn 5 = .ok (.invokevirtual 132, 3) := by decide +kernel
theorem dX5_stopsIn_8 : decode cX5_stopsIn 8 = .ok (.ifCond .ne 5, 3) := by decide +kernel
theorem dX5_stopsIn_11 : decode cX5_stopsIn 11 = .ok (.iconst (-1), 1) := by decide +kernel
theorem dX5_stopsIn_12 : decode cX5_stopsIn 12 = .ok (.ireturn, 1) := by decide +kernel
theorem dX5_stopsIn_13 : decode cX5_stopsIn 13 = .ok (.aload_n 0, 1) := by decide +kernel
theorem dX5_stopsIn_14 : decode cX5_stopsIn 14 = .ok (.getfield 19, 3) := by decide +kernel
theorem dX5_stopsIn_17 : decode cX5_stopsIn 17 = .ok (.getfield 135, 3) := by decide +kernel
theorem dX5_stopsIn_20 : decode cX5_stopsIn 20 = .ok (.iload_n 1, 1) := by decide +kernel
theorem dX5_stopsIn_21 : decode cX5_stopsIn 21 = .ok (.aaload, 1) := by decide +kernel
theorem dX5_stopsIn_22 : decode cX5_stopsIn 22 = .ok (.getfield 139, 3) := by decide +kernel
theorem dX5_stopsIn_25 : decode cX5_stopsIn 25 = .ok (.ifCond .eq 6, 3) := by decide +kernel
theorem dX5_stopsIn_28 : decode cX5_stopsIn 28 = .ok (.bipush (-4), 2) := by decide +kernel
theorem dX5_stopsIn_30 : decode cX5_stopsIn 30 = .ok (.ireturn, 1) := by decide +kernel
theorem dX5_stopsIn_31 : decode cX5_stopsIn 31 = .ok (.aload_n 0, 1) := by decide +kernel
theorem dX5_stopsIn_32 : decode cX5_stopsIn 32 = .ok (.getfield 23, 3) := by decide +kernel
theorem dX5_stopsIn_35 : decode cX5_stopsIn 35 = .ok (.aload_n 0, 1) := by decide +kernel
theorem dX5_stopsIn_36 : decode cX5_stopsIn 36 = .ok (.getfield 19, 3) := by decide +kernel
theorem dX5_stopsIn_39 : decode cX5_stopsIn 39 = .ok (.invokevirtual 198, 3) := by decide +kernel
theorem dX5_stopsIn_42 : decode cX5_stopsIn 42 = .ok (.aload_n 0, 1) := by decide +kernel
theorem dX5_stopsIn_43 : decode cX5_stopsIn 43 = .ok (.getfield 23, 3) := by decide +kernel
theorem dX5_stopsIn_46 : decode cX5_stopsIn 46 = .ok (.getfield 135, 3) := by decide +kernel
theorem dX5_stopsIn_49 : decode cX5_stopsIn 49 = .ok (.iload_n 1, 1) := by decide +kernel
theorem dX5_stopsIn_50 : decode cX5_stopsIn 50 = .ok (.aaload, 1) := by decide +kernel
theorem dX5_stopsIn_51 : decode cX5_stopsIn 51 = .ok (.astore_n 2, 1) := by decide +kernel
theorem dX5_stopsIn_52 : decode cX5_stopsIn 52 = .ok (.iconst 1, 1) := by decide +kernel
theorem dX5_stopsIn_53 : decode cX5_stopsIn 53 = .ok (.istore_n 3, 1) := by decide +kernel
theorem dX5_stopsIn_54 : decode cX5_stopsIn 54 = .ok (.iload_n 3, 1) := by decide +kernel
theorem dX5_stopsIn_55 : decode cX5_stopsIn 55 = .ok (.sipush 128, 3) := by decide +kernel
theorem dX5_stopsIn_58 : decode cX5_stopsIn 58 = .ok (.if_icmp .gt 28, 3) := by decide +kernel
theorem dX5_stopsIn_61 : decode cX5_stopsIn 61 = .ok (.aload_n 0, 1) := by decide +kernel
theorem dX5_stopsIn_62 : decode cX5_stopsIn 62 = .ok (.getfield 23, 3) := by decide +kernel
theorem dX5_stopsIn_65 : decode cX5_stopsIn 65 = .ok (.invokevirtual 171, 3) := by decide +kernel
theorem dX5_stopsIn_68 : decode cX5_stopsIn 68 = .ok (.ifCond .eq 18, 3) := by decide +kernel
theorem dX5_stopsIn_71 : decode cX5_stopsIn 71 = .ok (.aload_n 2, 1) := by decide +kernel
theorem dX5_stopsIn_72 : decode cX5_stopsIn 72 = .ok (.getfield 139, 3) := by decide +kernel
theorem dX5_stopsIn_75 : decode cX5_stopsIn 75 = .ok (.ifCond .eq 5, 3) := by decide +kernel
theorem dX5_stopsIn_78 : decode cX5_stopsIn 78 = .ok (.iload_n 3, 1) := by decide +kernel
theorem dX5_stopsIn_79 : decode cX5_stopsIn 79 = .ok (.ireturn, 1) := by decide +kernel
theorem dX5_stopsIn_80 : decode cX5_stopsIn 80 = .ok (.iinc 3 1, 3) := by decide +kernel
theorem dX5_stopsIn_83 : decode cX5_stopsIn 83 = .ok (.goto (-29), 3) := by decide +kernel
theorem dX5_stopsIn_86 : decode cX5_stopsIn 86 = .ok (.bipush (-5), 2) := by decide +kernel
theorem dX5_stopsIn_88 : decode cX5_stopsIn 88 = .ok (.ireturn, 1) := by decide +kernel
theorem dX5_best_0 : decode cX5_best 0 = .ok (.iload_n 1, 1) := by decide +kernel
theorem dX5_best_1 : decode cX5_best 1 = .ok (.iconst 0, 1) := by decide +kernel
theorem dX5_best_2 : decode cX5_best 2 = .ok (.iconst 1, 1) := by decide +kernel
theorem dX5_best_3 : decode cX5_best 3 = .ok (.invokestatic 120, 3) := by decide +kernel
theorem dX5_best_6 : decode cX5_best 6 = .ok (.ifCond .ne 6, 3) := by decide +kernel
theorem dX5_best_9 : decode cX5_best 9 = .ok (.bipush (-2), 2) := by decide +kernel
theorem dX5_best_11 : decode cX5_best 11 = .ok (.ireturn, 1) := by decide +kernel
theorem dX5_best_12 : decode cX5_best 12 = .ok (.aload_n 0, 1) := by decide +kernel
theorem dX5_best_13 : decode cX5_best 13 = .ok (.getfield 19, 3) := by decide +kernel
theorem dX5_best_16 : decode cX5_best 16 = .ok (.invokevirtual 174, 3) := by decide +kernel
theorem dX5_best_19 : decode cX5_best 19 = .ok (.ifCond .ne 6, 3) := by decide +kernel
theorem dX5_best_22 : decode cX5_best 22 = .ok (.bipush (-4), 2) := by decide +kernel
theorem dX5_best_24 : decode cX5_best 24 = .ok (.ireturn, 1) := by decide +kernel
theorem dX5_best_25 : decode cX5_best 25 = .ok (.bipush (-5), 2) := by decide +kernel
theorem dX5_best_27 : decode cX5_best 27 = .ok (.istore_n 2, 1) := by decide +kernel
theorem dX5_best_28 : decode cX5_best 28 = .ok (.sipush 129, 3) := by decide +kernel
theorem dX5_best_31 : decode cX5_best 31 = .ok (.istore_n 3, 1) := by decide +kernel
theorem dX5_best_32 : decode cX5_best 32 = .ok (.iconst 0, 1) := by decide +kernel
theorem dX5_best_33 : decode cX5_best 33 = .ok (.istore 4, 2) := by decide +kernel
theorem dX5_best_35 : decode cX5_best 35 = .ok (.iload 4, 2) := by decide +kernel
theorem dX5_best_37 : decode cX5_best 37 = .ok (.iconst 2, 1) := by decide +kernel
theorem dX5_best_38 : decode cX5_best 38 = .ok (.if_icmp .gt 60, 3) := by decide +kernel
theorem dX5_best_41 : decode cX5_best 41 = .ok (.aload_n 0, 1) := by decide +kernel
theorem dX5_best_42 : decode cX5_best 42 = .ok (.getfield 23, 3) := by decide +kernel
theorem dX5_best_45 : decode cX5_best 45 = .ok (.aload_n 0, 1) := by decide +kernel
theorem dX5_best_46 : decode cX5_best 46 = .ok (.getfield 19, 3) := by decide +kernel
theorem dX5_best_49 : decode cX5_best 49 = .ok (.invokevirtual 198, 3) := by decide +kernel
theorem dX5_best_52 : decode cX5_best 52 = .ok (.aload_n 0, 1) := by decide +kernel
theorem dX5_best_53 : decode cX5_best 53 = .ok (.getfield 23, 3) := by decide +kernel
theorem dX5_best_56 : decode cX5_best 56 = .ok (.iload 4, 2) := by decide +kernel
theorem dX5_best_58 : decode cX5_best 58 = .ok (.putfield 165, 3) := by decide +kernel
theorem dX5_best_61 : decode cX5_best 61 = .ok (.aload_n 0, 1) := by decide +kernel
theorem dX5_best_62 : decode cX5_best 62 = .ok (.getfield 23, 3) := by decide +kernel
theorem dX5_best_65 : decode cX5_best 65 = .ok (.invokevirtual 177, 3) := by decide +kernel
theorem dX5_best_68 : decode cX5_best 68 = .ok (.istore 5, 2) := by decide +kernel
theorem dX5_best_70 : decode cX5_best 70 = .ok (.aload_n 0, 1) := by decide +kernel
theorem dX5_best_71 : decode cX5_best 71 = .ok (.getfield 23, 3) := by decide +kernel
theorem dX5_best_74 : decode cX5_best 74 = .ok (.invokevirtual 174, 3) := by decide +kernel
theorem dX5_best_77 : decode cX5_best 77 = .ok (.ifCond .ne 15, 3) := by decide +kernel
theorem dX5_best_80 : decode cX5_best 80 = .ok (.iload 5, 2) := by decide +kernel
theorem dX5_best_82 : decode cX5_best 82 = .ok (.iload_n 3, 1) := by decide +kernel
theorem dX5_best_83 : decode cX5_best 83 = .ok (.if_icmp .ge 9, 3) := by decide +kernel
theorem dX5_best_86 : decode cX5_best 86 = .ok (.iload 4, 2) := by decide +kernel
theorem dX5_best_88 : decode cX5_best 88 = .ok (.istore_n 2, 1) := by decide +kernel
theorem dX5_best_89 : decode cX5_best 89 = .ok (.iload 5, 2) := by decide +kernel
theorem dX5_best_91 : decode cX5_best 91 = .ok (.istore_n 3, 1) := by decide +kernel
theorem dX5_best_92 : decode cX5_best 92 = .ok (.iinc 4 1, 3) := by decide +kernel
theorem dX5_best_95 : decode cX5_best 95 = .ok (.goto (-60), 3) := by decide +kernel
theorem dX5_best_98 : decode cX5_best 98 = .ok (.iload_n 2, 1) := by decide +kernel
theorem dX5_best_99 : decode cX5_best 99 = .ok (.bipush (-5), 2) := by decide +kernel
theorem dX5_best_101 : decode cX5_best 101 = .ok (.if_icmp .ne 6, 3) := by decide +kernel
theorem dX5_best_104 : decode cX5_best 104 = .ok (.bipush (-5), 2) := by decide +kernel
theorem dX5_best_106 : decode cX5_best 106 = .ok (.ireturn, 1) := by decide +kernel
theorem dX5_best_107 : decode cX5_best 107 = .ok (.iload_n 1, 1) := by decide +kernel
theorem dX5_best_108 : decode cX5_best 108 = .ok (.ifCond .ne 7, 3) := by decide +kernel
theorem dX5_best_111 : decode cX5_best 111 = .ok (.iload_n 2, 1) := by decide +kernel
theorem dX5_best_112 : decode cX5_best 112 = .ok (.goto 4, 3) := by decide +kernel
theorem dX5_best_115 : decode cX5_best 115 = .ok (.iload_n 3, 1) := by decide +kernel
theorem dX5_best_116 : decode cX5_best 116 = .ok (.ireturn, 1) := by decide +kernel
theorem dX5_count_0 : decode cX5_count 0 = .ok (.iload_n 1, 1) := by decide +kernel
theorem dX5_count_1 : decode cX5_count 1 = .ok (.tableswitch 127 0 8 #[51, 59, 67, 75, 83, 93, 103, 111, 119], 51) := by decide +kernel
theorem dX5_count_52 : decode cX5_count 52 = .ok (.aload_n 0, 1) := by decide +kernel
theorem dX5_count_53 : decode cX5_count 53 = .ok (.getfield 19, 3) := by decide +kernel
theorem dX5_count_56 : decode cX5_count 56 = .ok (.getfield 51, 3) := by decide +kernel
theorem dX5_count_59 : decode cX5_count 59 = .ok (.ireturn, 1) := by decide +kernel
theorem dX5_count_60 : decode cX5_count 60 = .ok (.aload_n 0, 1) := by decide +kernel
theorem dX5_count_61 : decode cX5_count 61 = .ok (.getfield 19, 3) := by decide +kernel
theorem dX5_count_64 : decode cX5_count 64 = .ok (.getfield 125, 3) := by decide +kernel
theorem dX5_count_67 : decode cX5_count 67 = .ok (.ireturn, 1) := by decide +kernel
theorem dX5_count_68 : decode cX5_count 68 = .ok (.aload_n 0, 1) := by decide +kernel
theorem dX5_count_69 : decode cX5_count 69 = .ok (.getfield 19, 3) := by decide +kernel
theorem dX5_count_72 : decode cX5_count 72 = .ok (.invokevirtual 174, 3) := by decide +kernel
theorem dX5_count_75 : decode cX5_count 75 = .ok (.ireturn, 1) := by decide +kernel
theorem dX5_count_76 : decode cX5_count 76 = .ok (.aload_n 0, 1) := by decide +kernel
theorem dX5_count_77 : decode cX5_count 77 = .ok (.getfield 19, 3) := by decide +kernel
theorem dX5_count_80 : decode cX5_count 80 = .ok (.getfield 165, 3) := by decide +kernel
theorem dX5_count_83 : decode cX5_count 83 = .ok (.ireturn, 1) := by decide +kernel
theorem dX5_count_84 : decode cX5_count 84 = .ok (.aload_n 0, 1) := by decide +kernel
theorem dX5_count_85 : decode cX5_count 85 = .ok (.getfield 19, 3) := by decide +kernel
theorem dX5_count_88 : decode cX5_count 88 = .ok (.bipush 15, 2) := by decide +kernel
theorem dX5_count_90 : decode cX5_count 90 = .ok (.invokevirtual 150, 3) := by decide +kernel
theorem dX5_count_93 : decode cX5_count 93 = .ok (.ireturn, 1) := by decide +kernel
theorem dX5_count_94 : decode cX5_count 94 = .ok (.aload_n 0, 1) := by decide +kernel
theorem dX5_count_95 : decode cX5_count 95 = .ok (.getfield 19, 3) := by decide +kernel
theorem dX5_count_98 : decode cX5_count 98 = .ok (.bipush 15, 2) := by decide +kernel
theorem dX5_count_100 : decode cX5_count 100 = .ok (.invokevirtual 113, 3) := by decide +kernel
theorem dX5_count_103 : decode cX5_count 103 = .ok (.ireturn, 1) := by decide +kernel
theorem dX5_count_104 : decode cX5_count 104 = .ok (.aload_n 0, 1) := by decide +kernel
theorem dX5_count_105 : decode cX5_count 105 = .ok (.getfield 19, 3) := by decide +kernel
theorem dX5_count_108 : decode cX5_count 108 = .ok (.getfield 223, 3) := by decide +kernel
theorem dX5_count_111 : decode cX5_count 111 = .ok (.ireturn, 1) := by decide +kernel
theorem dX5_count_112 : decode cX5_count 112 = .ok (.aload_n 0, 1) := by decide +kernel
theorem dX5_count_113 : decode cX5_count 113 = .ok (.getfield 32, 3) := by decide +kernel
theorem dX5_count_116 : decode cX5_count 116 = .ok (.getfield 192, 3) := by decide +kernel
theorem dX5_count_119 : decode cX5_count 119 = .ok (.ireturn, 1) := by decide +kernel
theorem dX5_count_120 : decode cX5_count 120 = .ok (.aload_n 0, 1) := by decide +kernel
theorem dX5_count_121 : decode cX5_count 121 = .ok (.getfield 12, 3) := by decide +kernel
theorem dX5_count_124 : decode cX5_count 124 = .ok (.getfield 186, 3) := by decide +kernel
theorem dX5_count_127 : decode cX5_count 127 = .ok (.ireturn, 1) := by decide +kernel
theorem dX5_count_128 : decode cX5_count 128 = .ok (.bipush (-2), 2) := by decide +kernel
theorem dX5_count_130 : decode cX5_count 130 = .ok (.ireturn, 1) := by decide +kernel
theorem dX5_isFromTo_0 : decode cX5_isFromTo 0 = .ok (.iload_n 0, 1) := by decide +kernel
theorem dX5_isFromTo_1 : decode cX5_isFromTo 1 = .ok (.iload_n 1, 1) := by decide +kernel
theorem dX5_isFromTo_2 : decode cX5_isFromTo 2 = .ok (.if_icmp .lt 12, 3) := by decide +kernel
theorem dX5_isFromTo_5 : decode cX5_isFromTo 5 = .ok (.iload_n 0, 1) := by decide +kernel
theorem dX5_isFromTo_6 : decode cX5_isFromTo 6 = .ok (.iload_n 2, 1) := by decide +kernel
theorem dX5_isFromTo_7 : decode cX5_isFromTo 7 = .ok (.if_icmp .gt 7, 3) := by decide +kernel
theorem dX5_isFromTo_10 : decode cX5_isFromTo 10 = .ok (.iconst 1, 1) := by decide +kernel
theorem dX5_isFromTo_11 : decode cX5_isFromTo 11 = .ok (.goto 4, 3) := by decide +kernel
theorem dX5_isFromTo_14 : decode cX5_isFromTo 14 = .ok (.iconst 0, 1) := by decide +kernel
theorem dX5_isFromTo_15 : decode cX5_isFromTo 15 = .ok (.ireturn, 1) := by decide +kernel
theorem dX5_covers_0 : decode cX5_covers 0 = .ok (.iload_n 0, 1) := by decide +kernel
theorem dX5_covers_1 : decode cX5_covers 1 = .ok (.iload_n 1, 1) := by decide +kernel
theorem dX5_covers_2 : decode cX5_covers 2 = .ok (.ishr, 1) := by decide +kernel
theorem dX5_covers_3 : decode cX5_covers 3 = .ok (.iconst 1, 1) := by decide +kernel
theorem dX5_covers_4 : decode cX5_covers 4 = .ok (.iand, 1) := by decide +kernel
theorem dX5_covers_5 : decode cX5_covers 5 = .ok (.ifCond .eq 7, 3) := by decide +kernel
theorem dX5_covers_8 : decode cX5_covers 8 = .ok (.iconst 1, 1) := by decide +kernel
theorem dX5_covers_9 : decode cX5_covers 9 = .ok (.goto 4, 3) := by decide +kernel
theorem dX5_covers_12 : decode cX5_covers 12 = .ok (.iconst 0, 1) := by decide +kernel
theorem dX5_covers_13 : decode cX5_covers 13 = .ok (.ireturn, 1) := by decide +kernel
end
section
theorem dL_cell_0 : decode cL_cell 0 = .ok (.iload_n 1, 1) := by decide +kernel
theorem dL_cell_1 : decode cL_cell 1 = .ok (.aload_n 0, 1) := by decide +kernel
theorem dL_cell_2 : decode cL_cell 2 = .ok (.arraylength, 1) := by decide +kernel
theorem dL_cell_3 : decode cL_cell 3 = .ok (.if_icmp .ge 9, 3) := by decide +kernel
theorem dL_cell_6 : decode cL_cell 6 = .ok (.aload_n 0, 1) := by decide +kernel
theorem dL_cell_7 : decode cL_cell 7 = .ok (.iload_n 1, 1) := by decide +kernel
theorem dL_cell_8 : decode cL_cell 8 = .ok (.iaload, 1) := by decide +kernel
theorem dL_cell_9 : decode cL_cell 9 = .ok (.goto 10, 3) := by decide +kernel
theorem dL_cell_12 : decode cL_cell 12 = .ok (.ldc 7, 2) := by decide +kernel
theorem dL_cell_14 : decode cL_cell 14 = .ok (.iload_n 1, 1) := by decide +kernel
theorem dL_cell_15 : decode cL_cell 15 = .ok (.imul, 1) := by decide +kernel
theorem dL_cell_16 : decode cL_cell 16 = .ok (.ldc 8, 2) := by decide +kernel
theorem dL_cell_18 : decode cL_cell 18 = .ok (.iadd, 1) := by decide +kernel
theorem dL_cell_19 : decode cL_cell 19 = .ok (.ireturn, 1) := by decide +kernel
theorem dL_low_0 : decode cL_low 0 = .ok (.iload_n 0, 1) := by decide +kernel
theorem dL_low_1 : decode cL_low 1 = .ok (.ldc 9, 2) := by decide +kernel
theorem dL_low_3 : decode cL_low 3 = .ok (.iand, 1) := by decide +kernel
theorem dL_low_4 : decode cL_low 4 = .ok (.iload_n 1, 1) := by decide +kernel
theorem dL_low_5 : decode cL_low 5 = .ok (.irem, 1) := by decide +kernel
theorem dL_low_6 : decode cL_low 6 = .ok (.ireturn, 1) := by decide +kernel
theorem dL_layer_0 : decode cL_layer 0 = .ok (.iload_n 0, 1) := by decide +kernel
theorem dL_layer_1 : decode cL_layer 1 = .ok (.iconst 4, 1) := by decide +kernel
theorem dL_layer_2 : decode cL_layer 2 = .ok (.invokestatic 10, 3) := by decide +kernel
theorem dL_layer_5 : decode cL_layer 5 = .ok (.ireturn, 1) := by decide +kernel
theorem dL_bottom_0 : decode cL_bottom 0 = .ok (.iload_n 0, 1) := by decide +kernel
theorem dL_bottom_1 : decode cL_bottom 1 = .ok (.iconst 2, 1) := by decide +kernel
theorem dL_bottom_2 : decode cL_bottom 2 = .ok (.ishr, 1) := by decide +kernel
theorem dL_bottom_3 : decode cL_bottom 3 = .ok (.sipush 500, 3) := by decide +kernel
theorem dL_bottom_6 : decode cL_bottom 6 = .ok (.invokestatic 10, 3) := by decide +kernel
theorem dL_bottom_9 : decode cL_bottom 9 = .ok (.ireturn, 1) := by decide +kernel
theorem dL_top_0 : decode cL_top 0 = .ok (.iload_n 0, 1) := by decide +kernel
theorem dL_top_1 : decode cL_top 1 = .ok (.invokestatic 16, 3) := by decide +kernel
theorem dL_top_4 : decode cL_top 4 = .ok (.iload_n 0, 1) := by decide +kernel
theorem dL_top_5 : decode cL_top 5 = .ok (.bipush 11, 2) := by decide +kernel
theorem dL_top_7 : decode cL_top 7 = .ok (.ishr, 1) := by decide +kernel
theorem dL_top_8 : decode cL_top 8 = .ok (.iload_n 0, 1) := by decide +kernel
theorem dL_top_9 : decode cL_top 9 = .ok (.bipush 20, 2) := by decide +kernel
theorem dL_top_11 : decode cL_top 11 = .ok (.ishr, 1) := by decide +kernel
theorem dL_top_12 : decode cL_top 12 = .ok (.iconst 4, 1) := by decide +kernel
theorem dL_top_13 : decode cL_top 13 = .ok (.invokestatic 10, 3) := by decide +kernel
theorem dL_top_16 : decode cL_top 16 = .ok (.ifCond .ne 7, 3) := by decide +kernel
theorem dL_top_19 : decode cL_top 19 = .ok (.iconst 2, 1) := by decide +kernel
theorem dL_top_20 : decode cL_top 20 = .ok (.goto 6, 3) := by decide +kernel
theorem dL_top_23 : decode cL_top 23 = .ok (.sipush 400, 3) := by decide +kernel
theorem dL_top_26 : decode cL_top 26 = .ok (.invokestatic 10, 3) := by decide +kernel
theorem dL_top_29 : decode cL_top 29 = .ok (.iadd, 1) := by decide +kernel
theorem dL_top_30 : decode cL_top 30 = .ok (.ireturn, 1) := by decide +kernel
theorem dL_rows_0 : decode cL_rows 0 = .ok (.iconst 1, 1) := by decide +kernel
theorem dL_rows_1 : decode cL_rows 1 = .ok (.iload_n 0, 1) := by decide +kernel
theorem dL_rows_2 : decode cL_rows 2 = .ok (.bipush 21, 2) := by decide +kernel
theorem dL_rows_4 : decode cL_rows 4 = .ok (.ishr, 1) := by decide +kernel
theorem dL_rows_5 : decode cL_rows 5 = .ok (.bipush 9, 2) := by decide +kernel
theorem dL_rows_7 : decode cL_rows 7 = .ok (.invokestatic 10, 3) := by decide +kernel
theorem dL_rows_10 : decode cL_rows 10 = .ok (.iadd, 1) := by decide +kernel
theorem dL_rows_11 : decode cL_rows 11 = .ok (.ireturn, 1) := by decide +kernel
theorem dL_valueOf_0 : decode cL_valueOf 0 = .ok (.iload_n 0, 1) := by decide +kernel
theorem dL_valueOf_1 : decode cL_valueOf 1 = .ok (.invokestatic 16, 3) := by decide +kernel
theorem dL_valueOf_4 : decode cL_valueOf 4 = .ok (.iload_n 1, 1) := by decide +kernel
theorem dL_valueOf_5 : decode cL_valueOf 5 = .ok (.iload_n 2, 1) := by decide +kernel
theorem dL_valueOf_6 : decode cL_valueOf 6 = .ok (.ishr, 1) := by decide +kernel
theorem dL_valueOf_7 : decode cL_valueOf 7 = .ok (.iload_n 0, 1) := by decide +kernel
theorem dL_valueOf_8 : decode cL_valueOf 8 = .ok (.invokestatic 20, 3) := by decide +kernel
theorem dL_valueOf_11 : decode cL_valueOf 11 = .ok (.iload_n 0, 1) := by decide +kernel
theorem dL_valueOf_12 : decode cL_valueOf 12 = .ok (.invokestatic 16, 3) := by decide +kernel
theorem dL_valueOf_15 : decode cL_valueOf 15 = .ok (.isub, 1) := by decide +kernel
theorem dL_valueOf_16 : decode cL_valueOf 16 = .ok (.iconst 1, 1) := by decide +kernel
theorem dL_valueOf_17 : decode cL_valueOf 17 = .ok (.iadd, 1) := by decide +kernel
theorem dL_valueOf_18 : decode cL_valueOf 18 = .ok (.invokestatic 10, 3) := by decide +kernel
theorem dL_valueOf_21 : decode cL_valueOf 21 = .ok (.iadd, 1) := by decide +kernel
theorem dL_valueOf_22 : decode cL_valueOf 22 = .ok (.ireturn, 1) := by decide +kernel
theorem dL_type_0 : decode cL_type 0 = .ok (.aload_n 0, 1) := by decide +kernel
theorem dL_type_1 : decode cL_type 1 = .ok (.iload_n 2, 1) := by decide +kernel
theorem dL_type_2 : decode cL_type 2 = .ok (.i2c, 1) := by decide +kernel
theorem dL_type_3 : decode cL_type 3 = .ok (.invokevirtual 23, 3) := by decide +kernel
theorem dL_type_6 : decode cL_type 6 = .ok (.iload_n 1, 1) := by decide +kernel
theorem dL_type_7 : decode cL_type 7 = .ok (.iconst 1, 1) := by decide +kernel
theorem dL_type_8 : decode cL_type 8 = .ok (.iadd, 1) := by decide +kernel
theorem dL_type_9 : decode cL_type 9 = .ok (.if_icmp .ne 9, 3) := by decide +kernel
theorem dL_type_12 : decode cL_type 12 = .ok (.iload_n 1, 1) := by decide +kernel
theorem dL_type_13 : decode cL_type 13 = .ok (.iconst 1, 1) := by decide +kernel
theorem dL_type_14 : decode cL_type 14 = .ok (.iadd, 1) := by decide +kernel
theorem dL_type_15 : decode cL_type 15 = .ok (.goto 6, 3) := by decide +kernel
theorem dL_type_18 : decode cL_type 18 = .ok (.sipush (-1000), 3) := by decide +kernel
theorem dL_type_21 : decode cL_type 21 = .ok (.ireturn, 1) := by decide +kernel
theorem dL_number_0 : decode cL_number 0 = .ok (.iload_n 2, 1) := by decide +kernel
theorem dL_number_1 : decode cL_number 1 = .ok (.bipush 99, 2) := by decide +kernel
theorem dL_number_3 : decode cL_number 3 = .ok (.if_icmp .le 18, 3) := by decide +kernel
theorem dL_number_6 : decode cL_number 6 = .ok (.aload_n 0, 1) := by decide +kernel
theorem dL_number_7 : decode cL_number 7 = .ok (.iload_n 1, 1) := by decide +kernel
theorem dL_number_8 : decode cL_number 8 = .ok (.bipush 48, 2) := by decide +kernel
theorem dL_number_10 : decode cL_number 10 = .ok (.iload_n 2, 1) := by decide +kernel
theorem dL_number_11 : decode cL_number 11 = .ok (.bipush 100, 2) := by decide +kernel
theorem dL_number_13 : decode cL_number 13 = .ok (.idiv, 1) := by decide +kernel
theorem dL_number_14 : decode cL_number 14 = .ok (.iadd, 1) := by decide +kernel
theorem dL_number_15 : decode cL_number 15 = .ok (.invokestatic 29, 3) := by decide +kernel
theorem dL_number_18 : decode cL_number 18 = .ok (.goto 4, 3) := by decide +kernel
theorem dL_number_21 : decode cL_number 21 = .ok (.iload_n 1, 1) := by decide +kernel
theorem dL_number_22 : decode cL_number 22 = .ok (.istore_n 3, 1) := by decide +kernel
theorem dL_number_23 : decode cL_number 23 = .ok (.iload_n 2, 1) := by decide +kernel
theorem dL_number_24 : decode cL_number 24 = .ok (.bipush 9, 2) := by decide +kernel
theorem dL_number_26 : decode cL_number 26 = .ok (.if_icmp .le 21, 3) := by decide +kernel
theorem dL_number_29 : decode cL_number 29 = .ok (.aload_n 0, 1) := by decide +kernel
theorem dL_number_30 : decode cL_number 30 = .ok (.iload_n 3, 1) := by decide +kernel
theorem dL_number_31 : decode cL_number 31 = .ok (.bipush 48, 2) := by decide +kernel
theorem dL_number_33 : decode cL_number 33 = .ok (.iload_n 2, 1) := by decide +kernel
theorem dL_number_34 : decode cL_number 34 = .ok (.bipush 10, 2) := by decide +kernel
theorem dL_number_36 : decode cL_number 36 = .ok (.idiv, 1) := by decide +kernel
theorem dL_number_37 : decode cL_number 37 = .ok (.bipush 10, 2) := by decide +kernel
theorem dL_number_39 : decode cL_number 39 = .ok (.irem, 1) := by decide +kernel
theorem dL_number_40 : decode cL_number 40 = .ok (.iadd, 1) := by decide +kernel
theorem dL_number_41 : decode cL_number 41 = .ok (.invokestatic 29, 3) := by decide +kernel
theorem dL_number_44 : decode cL_number 44 = .ok (.goto 4, 3) := by decide +kernel
theorem dL_number_47 : decode cL_number 47 = .ok (.iload_n 3, 1) := by decide +kernel
theorem dL_number_48 : decode cL_number 48 = .ok (.istore_n 3, 1) := by decide +kernel
theorem dL_number_49 : decode cL_number 49 = .ok (.aload_n 0, 1) := by decide +kernel
theorem dL_number_50 : decode cL_number 50 = .ok (.iload_n 3, 1) := by decide +kernel
theorem dL_number_51 : decode cL_number 51 = .ok (.bipush 48, 2) := by decide +kernel
theorem dL_number_53 : decode cL_number 53 = .ok (.iload_n 2, 1) := by decide +kernel
theorem dL_number_54 : decode cL_number 54 = .ok (.bipush 10, 2) := by decide +kernel
theorem dL_number_56 : decode cL_number 56 = .ok (.irem, 1) := by decide +kernel
theorem dL_number_57 : decode cL_number 57 = .ok (.iadd, 1) := by decide +kernel
theorem dL_number_58 : decode cL_number 58 = .ok (.invokestatic 29, 3) := by decide +kernel
theorem dL_number_61 : decode cL_number 61 = .ok (.ireturn, 1) := by decide +kernel
theorem dL_write_0 : decode cL_write 0 = .ok (.aload_n 0, 1) := by decide +kernel
theorem dL_write_1 : decode cL_write 1 = .ok (.aload_n 0, 1) := by decide +kernel
theorem dL_write_2 : decode cL_write 2 = .ok (.iconst 0, 1) := by decide +kernel
theorem dL_write_3 : decode cL_write 3 = .ok (.bipush 48, 2) := by decide +kernel
theorem dL_write_5 : decode cL_write 5 = .ok (.iload_n 1, 1) := by decide +kernel
theorem dL_write_6 : decode cL_write 6 = .ok (.invokestatic 32, 3) := by decide +kernel
theorem dL_write_9 : decode cL_write 9 = .ok (.iadd, 1) := by decide +kernel
theorem dL_write_10 : decode cL_write 10 = .ok (.invokestatic 29, 3) := by decide +kernel
theorem dL_write_13 : decode cL_write 13 = .ok (.bipush 58, 2) := by decide +kernel
theorem dL_write_15 : decode cL_write 15 = .ok (.invokestatic 29, 3) := by decide +kernel
theorem dL_write_18 : decode cL_write 18 = .ok (.istore_n 3, 1) := by decide +kernel
theorem dL_write_19 : decode cL_write 19 = .ok (.aload_n 0, 1) := by decide +kernel
theorem dL_write_20 : decode cL_write 20 = .ok (.aload_n 0, 1) := by decide +kernel
theorem dL_write_21 : decode cL_write 21 = .ok (.aload_n 0, 1) := by decide +kernel
theorem dL_write_22 : decode cL_write 22 = .ok (.iload_n 3, 1) := by decide +kernel
theorem dL_write_23 : decode cL_write 23 = .ok (.iload_n 1, 1) := by decide +kernel
theorem dL_write_24 : decode cL_write 24 = .ok (.invokestatic 16, 3) := by decide +kernel
theorem dL_write_27 : decode cL_write 27 = .ok (.invokestatic 35, 3) := by decide +kernel
theorem dL_write_30 : decode cL_write 30 = .ok (.bipush 45, 2) := by decide +kernel
theorem dL_write_32 : decode cL_write 32 = .ok (.invokestatic 29, 3) := by decide +kernel
theorem dL_write_35 : decode cL_write 35 = .ok (.iload_n 1, 1) := by decide +kernel
theorem dL_write_36 : decode cL_write 36 = .ok (.invokestatic 20, 3) := by decide +kernel
theorem dL_write_39 : decode cL_write 39 = .ok (.invokestatic 35, 3) := by decide +kernel
theorem dL_write_42 : decode cL_write 42 = .ok (.istore_n 3, 1) := by decide +kernel
theorem dL_write_43 : decode cL_write 43 = .ok (.iconst 0, 1) := by decide +kernel
theorem dL_write_44 : decode cL_write 44 = .ok (.istore 4, 2) := by decide +kernel
theorem dL_write_46 : decode cL_write 46 = .ok (.iload 4, 2) := by decide +kernel
theorem dL_write_48 : decode cL_write 48 = .ok (.iload_n 1, 1) := by decide +kernel
theorem dL_write_49 : decode cL_write 49 = .ok (.invokestatic 38, 3) := by decide +kernel
theorem dL_write_52 : decode cL_write 52 = .ok (.if_icmp .ge 38, 3) := by decide +kernel
theorem dL_write_55 : decode cL_write 55 = .ok (.aload_n 0, 1) := by decide +kernel
theorem dL_write_56 : decode cL_write 56 = .ok (.aload_n 0, 1) := by decide +kernel
theorem dL_write_57 : decode cL_write 57 = .ok (.iload_n 3, 1) := by decide +kernel
theorem dL_write_58 : decode cL_write 58 = .ok (.iload 4, 2) := by decide +kernel
theorem dL_write_60 : decode cL_write 60 = .ok (.ifCond .ne 8, 3) := by decide +kernel
theorem dL_write_63 : decode cL_write 63 = .ok (.bipush 61, 2) := by decide +kernel
theorem dL_write_65 : decode cL_write 65 = .ok (.goto 5, 3) := by decide +kernel
theorem dL_write_68 : decode cL_write 68 = .ok (.bipush 44, 2) := by decide +kernel
theorem dL_write_70 : decode cL_write 70 = .ok (.invokestatic 29, 3) := by decide +kernel
theorem dL_write_73 : decode cL_write 73 = .ok (.iload_n 1, 1) := by decide +kernel
theorem dL_write_74 : decode cL_write 74 = .ok (.iload_n 2, 1) := by decide +kernel
theorem dL_write_75 : decode cL_write 75 = .ok (.iload 4, 2) := by decide +kernel
theorem dL_write_77 : decode cL_write 77 = .ok (.invokestatic 41, 3) := by decide +kernel
theorem dL_write_80 : decode cL_write 80 = .ok (.invokestatic 35, 3) := by decide +kernel
theorem dL_write_83 : decode cL_write 83 = .ok (.istore_n 3, 1) := by decide +kernel
theorem dL_write_84 : decode cL_write 84 = .ok (.iinc 4 1, 3) := by decide +kernel
theorem dL_write_87 : decode cL_write 87 = .ok (.goto (-41), 3) := by decide +kernel
theorem dL_write_90 : decode cL_write 90 = .ok (.iload_n 3, 1) := by decide +kernel
theorem dL_write_91 : decode cL_write 91 = .ok (.ireturn, 1) := by decide +kernel
theorem dL_build_0 : decode cL_build 0 = .ok (.iconst 1, 1) := by decide +kernel
theorem dL_build_1 : decode cL_build 1 = .ok (.aload_n 1, 1) := by decide +kernel
theorem dL_build_2 : decode cL_build 2 = .ok (.iconst 0, 1) := by decide +kernel
theorem dL_build_3 : decode cL_build 3 = .ok (.invokestatic 45, 3) := by decide +kernel
theorem dL_build_6 : decode cL_build 6 = .ok (.bipush 7, 2) := by decide +kernel
theorem dL_build_8 : decode cL_build 8 = .ok (.invokestatic 10, 3) := by decide +kernel
theorem dL_build_11 : decode cL_build 11 = .ok (.iadd, 1) := by decide +kernel
theorem dL_build_12 : decode cL_build 12 = .ok (.istore_n 2, 1) := by decide +kernel
theorem dL_build_13 : decode cL_build 13 = .ok (.iconst 0, 1) := by decide +kernel
theorem dL_build_14 : decode cL_build 14 = .ok (.istore_n 3, 1) := by decide +kernel
theorem dL_build_15 : decode cL_build 15 = .ok (.iconst 0, 1) := by decide +kernel
theorem dL_build_16 : decode cL_build 16 = .ok (.istore 4, 2) := by decide +kernel
theorem dL_build_18 : decode cL_build 18 = .ok (.iload 4, 2) := by decide +kernel
theorem dL_build_20 : decode cL_build 20 = .ok (.iload_n 2, 1) := by decide +kernel
theorem dL_build_21 : decode cL_build 21 = .ok (.if_icmp .ge 137, 3) := by decide +kernel
theorem dL_build_24 : decode cL_build 24 = .ok (.aload_n 1, 1) := by decide +kernel
theorem dL_build_25 : decode cL_build 25 = .ok (.iconst 1, 1) := by decide +kernel
theorem dL_build_26 : decode cL_build 26 = .ok (.iconst 2, 1) := by decide +kernel
theorem dL_build_27 : decode cL_build 27 = .ok (.iload 4, 2) := by decide +kernel
theorem dL_build_29 : decode cL_build 29 = .ok (.imul, 1) := by decide +kernel
theorem dL_build_30 : decode cL_build 30 = .ok (.iadd, 1) := by decide +kernel
theorem dL_build_31 : decode cL_build 31 = .ok (.invokestatic 45, 3) := by decide +kernel
theorem dL_build_34 : decode cL_build 34 = .ok (.istore 5, 2) := by decide +kernel
theorem dL_build_36 : decode cL_build 36 = .ok (.aload_n 0, 1) := by decide +kernel
theorem dL_build_37 : decode cL_build 37 = .ok (.iload 5, 2) := by decide +kernel
theorem dL_build_39 : decode cL_build 39 = .ok (.aload_n 1, 1) := by decide +kernel
theorem dL_build_40 : decode cL_build 40 = .ok (.iconst 2, 1) := by decide +kernel
theorem dL_build_41 : decode cL_build 41 = .ok (.iconst 2, 1) := by decide +kernel
theorem dL_build_42 : decode cL_build 42 = .ok (.iload 4, 2) := by decide +kernel
theorem dL_build_44 : decode cL_build 44 = .ok (.imul, 1) := by decide +kernel
theorem dL_build_45 : decode cL_build 45 = .ok (.iadd, 1) := by decide +kernel
theorem dL_build_46 : decode cL_build 46 = .ok (.invokestatic 45, 3) := by decide +kernel
theorem dL_build_49 : decode cL_build 49 = .ok (.invokestatic 49, 3) := by decide +kernel
theorem dL_build_52 : decode cL_build 52 = .ok (.istore 6, 2) := by decide +kernel
theorem dL_build_54 : decode cL_build 54 = .ok (.iload_n 3, 1) := by decide +kernel
theorem dL_build_55 : decode cL_build 55 = .ok (.iload 5, 2) := by decide +kernel
theorem dL_build_57 : decode cL_build 57 = .ok (.invokestatic 38, 3) := by decide +kernel
theorem dL_build_60 : decode cL_build 60 = .ok (.iadd, 1) := by decide +kernel
theorem dL_build_61 : decode cL_build 61 = .ok (.istore_n 3, 1) := by decide +kernel
theorem dL_build_62 : decode cL_build 62 = .ok (.aload_n 0, 1) := by decide +kernel
theorem dL_build_63 : decode cL_build 63 = .ok (.invokevirtual 52, 3) := by decide +kernel
theorem dL_build_66 : decode cL_build 66 = .ok (.iload 4, 2) := by decide +kernel
theorem dL_build_68 : decode cL_build 68 = .ok (.if_icmp .ne 82, 3) := by decide +kernel
theorem dL_build_71 : decode cL_build 71 = .ok (.aload_n 0, 1) := by decide +kernel
theorem dL_build_72 : decode cL_build 72 = .ok (.invokevirtual 56, 3) := by decide +kernel
theorem dL_build_75 : decode cL_build 75 = .ok (.iload 6, 2) := by decide +kernel
theorem dL_build_77 : decode cL_build 77 = .ok (.if_icmp .ne 73, 3) := by decide +kernel
theorem dL_build_80 : decode cL_build 80 = .ok (.aload_n 0, 1) := by decide +kernel
theorem dL_build_81 : decode cL_build 81 = .ok (.iload 4, 2) := by decide +kernel
theorem dL_build_83 : decode cL_build 83 = .ok (.iconst 0, 1) := by decide +kernel
theorem dL_build_84 : decode cL_build 84 = .ok (.invokevirtual 59, 3) := by decide +kernel
theorem dL_build_87 : decode cL_build 87 = .ok (.iload 5, 2) := by decide +kernel
theorem dL_build_89 : decode cL_build 89 = .ok (.invokestatic 32, 3) := by decide +kernel
theorem dL_build_92 : decode cL_build 92 = .ok (.if_icmp .ne 58, 3) := by decide +kernel
theorem dL_build_95 : decode cL_build 95 = .ok (.aload_n 0, 1) := by decide +kernel
theorem dL_build_96 : decode cL_build 96 = .ok (.iload 4, 2) := by decide +kernel
theorem dL_build_98 : decode cL_build 98 = .ok (.iconst 1, 1) := by decide +kernel
theorem dL_build_99 : decode cL_build 99 = .ok (.invokevirtual 59, 3) := by decide +kernel
theorem dL_build_102 : decode cL_build 102 = .ok (.iload 5, 2) := by decide +kernel
theorem dL_build_104 : decode cL_build 104 = .ok (.invokestatic 16, 3) := by decide +kernel
theorem dL_build_107 : decode cL_build 107 = .ok (.if_icmp .ne 43, 3) := by decide +kernel
theorem dL_build_110 : decode cL_build 110 = .ok (.aload_n 0, 1) := by decide +kernel
theorem dL_build_111 : decode cL_build 111 = .ok (.iload 4, 2) := by decide +kernel
theorem dL_build_113 : decode cL_build 113 = .ok (.iconst 2, 1) := by decide +kernel
theorem dL_build_114 : decode cL_build 114 = .ok (.invokevirtual 59, 3) := by decide +kernel
theorem dL_build_117 : decode cL_build 117 = .ok (.iload 5, 2) := by decide +kernel
theorem dL_build_119 : decode cL_build 119 = .ok (.invokestatic 20, 3) := by decide +kernel
theorem dL_build_122 : decode cL_build 122 = .ok (.if_icmp .ne 28, 3) := by decide +kernel
theorem dL_build_125 : decode cL_build 125 = .ok (.aload_n 0, 1) := by decide +kernel
theorem dL_build_126 : decode cL_build 126 = .ok (.iload 4, 2) := by decide +kernel
theorem dL_build_128 : decode cL_build 128 = .ok (.iconst 3, 1) := by decide +kernel
theorem dL_build_129 : decode cL_build 129 = .ok (.invokevirtual 59, 3) := by decide +kernel
theorem dL_build_132 : decode cL_build 132 = .ok (.iload 5, 2) := by decide +kernel
theorem dL_build_134 : decode cL_build 134 = .ok (.invokestatic 38, 3) := by decide +kernel
theorem dL_build_137 : decode cL_build 137 = .ok (.if_icmp .ne 13, 3) := by decide +kernel
theorem dL_build_140 : decode cL_build 140 = .ok (.aload_n 0, 1) := by decide +kernel
theorem dL_build_141 : decode cL_build 141 = .ok (.iload 4, 2) := by decide +kernel
theorem dL_build_143 : decode cL_build 143 = .ok (.iconst 4, 1) := by decide +kernel
theorem dL_build_144 : decode cL_build 144 = .ok (.invokevirtual 59, 3) := by decide +kernel
theorem dL_build_147 : decode cL_build 147 = .ok (.ifCond .eq 5, 3) := by decide +kernel
theorem dL_build_150 : decode cL_build 150 = .ok (.iconst 0, 1) := by decide +kernel
theorem dL_build_151 : decode cL_build 151 = .ok (.ireturn, 1) := by decide +kernel
theorem dL_build_152 : decode cL_build 152 = .ok (.iinc 4 1, 3) := by decide +kernel
theorem dL_build_155 : decode cL_build 155 = .ok (.goto (-137), 3) := by decide +kernel
theorem dL_build_158 : decode cL_build 158 = .ok (.iconst 1, 1) := by decide +kernel
theorem dL_build_159 : decode cL_build 159 = .ok (.aload_n 1, 1) := by decide +kernel
theorem dL_build_160 : decode cL_build 160 = .ok (.bipush 17, 2) := by decide +kernel
theorem dL_build_162 : decode cL_build 162 = .ok (.invokestatic 45, 3) := by decide +kernel
theorem dL_build_165 : decode cL_build 165 = .ok (.iconst 5, 1) := by decide +kernel
theorem dL_build_166 : decode cL_build 166 = .ok (.invokestatic 10, 3) := by decide +kernel
theorem dL_build_169 : decode cL_build 169 = .ok (.iadd, 1) := by decide +kernel
theorem dL_build_170 : decode cL_build 170 = .ok (.istore 4, 2) := by decide +kernel
theorem dL_build_172 : decode cL_build 172 = .ok (.iconst 0, 1) := by decide +kernel
theorem dL_build_173 : decode cL_build 173 = .ok (.istore 5, 2) := by decide +kernel
theorem dL_build_175 : decode cL_build 175 = .ok (.iload 5, 2) := by decide +kernel
theorem dL_build_177 : decode cL_build 177 = .ok (.iload 4, 2) := by decide +kernel
theorem dL_build_179 : decode cL_build 179 = .ok (.if_icmp .ge 182, 3) := by decide +kernel
theorem dL_build_182 : decode cL_build 182 = .ok (.aload_n 1, 1) := by decide +kernel
theorem dL_build_183 : decode cL_build 183 = .ok (.bipush 18, 2) := by decide +kernel
theorem dL_build_185 : decode cL_build 185 = .ok (.iload 5, 2) := by decide +kernel
theorem dL_build_187 : decode cL_build 187 = .ok (.iadd, 1) := by decide +kernel
theorem dL_build_188 : decode cL_build 188 = .ok (.invokestatic 45, 3) := by decide +kernel
theorem dL_build_191 : decode cL_build 191 = .ok (.istore 6, 2) := by decide +kernel
theorem dL_build_193 : decode cL_build 193 = .ok (.iload 6, 2) := by decide +kernel
theorem dL_build_195 : decode cL_build 195 = .ok (.iconst 5, 1) := by decide +kernel
theorem dL_build_196 : decode cL_build 196 = .ok (.invokestatic 10, 3) := by decide +kernel
theorem dL_build_199 : decode cL_build 199 = .ok (.istore 7, 2) := by decide +kernel
theorem dL_build_201 : decode cL_build 201 = .ok (.iconst 1, 1) := by decide +kernel
theorem dL_build_202 : decode cL_build 202 = .ok (.iload 6, 2) := by decide +kernel
theorem dL_build_204 : decode cL_build 204 = .ok (.iconst 3, 1) := by decide +kernel
theorem dL_build_205 : decode cL_build 205 = .ok (.ishr, 1) := by decide +kernel
theorem dL_build_206 : decode cL_build 206 = .ok (.bipush 15, 2) := by decide +kernel
theorem dL_build_208 : decode cL_build 208 = .ok (.invokestatic 10, 3) := by decide +kernel
theorem dL_build_211 : decode cL_build 211 = .ok (.iadd, 1) := by decide +kernel
theorem dL_build_212 : decode cL_build 212 = .ok (.istore 8, 2) := by decide +kernel
theorem dL_build_214 : decode cL_build 214 = .ok (.iload 7, 2) := by decide +kernel
theorem dL_build_216 : decode cL_build 216 = .ok (.iconst 1, 1) := by decide +kernel
theorem dL_build_217 : decode cL_build 217 = .ok (.if_icmp .ne 17, 3) := by decide +kernel
theorem dL_build_220 : decode cL_build 220 = .ok (.iload 6, 2) := by decide +kernel
theorem dL_build_222 : decode cL_build 222 = .ok (.bipush 7, 2) := by decide +kernel
theorem dL_build_224 : decode cL_build 224 = .ok (.ishr, 1) := by decide +kernel
theorem dL_build_225 : decode cL_build 225 = .ok (.sipush 700, 3) := by decide +kernel
theorem dL_build_228 : decode cL_build 228 = .ok (.invokestatic 10, 3) := by decide +kernel
theorem dL_build_231 : decode cL_build 231 = .ok (.goto 4, 3) := by decide +kernel
theorem dL_build_234 : decode cL_build 234 = .ok (.iconst 0, 1) := by decide +kernel
theorem dL_build_235 : decode cL_build 235 = .ok (.istore 9, 2) := by decide +kernel
theorem dL_build_237 : decode cL_build 237 = .ok (.iload 6, 2) := by decide +kernel
theorem dL_build_239 : decode cL_build 239 = .ok (.bipush 17, 2) := by decide +kernel
theorem dL_build_241 : decode cL_build 241 = .ok (.ishr, 1) := by decide +kernel
theorem dL_build_242 : decode cL_build 242 = .ok (.iconst 4, 1) := by decide +kernel
theorem dL_build_243 : decode cL_build 243 = .ok (.invokestatic 10, 3) := by decide +kernel
theorem dL_build_246 : decode cL_build 246 = .ok (.ifCond .ne 7, 3) := by decide +kernel
theorem dL_build_249 : decode cL_build 249 = .ok (.iconst 0, 1) := by decide +kernel
theorem dL_build_250 : decode cL_build 250 = .ok (.goto 36, 3) := by decide +kernel
theorem dL_build_253 : decode cL_build 253 = .ok (.iload 6, 2) := by decide +kernel
theorem dL_build_255 : decode cL_build 255 = .ok (.bipush 19, 2) := by decide +kernel
theorem dL_build_257 : decode cL_build 257 = .ok (.ishr, 1) := by decide +kernel
theorem dL_build_258 : decode cL_build 258 = .ok (.iload 7, 2) := by decide +kernel
theorem dL_build_260 : decode cL_build 260 = .ok (.iconst 1, 1) := by decide +kernel
theorem dL_build_261 : decode cL_build 261 = .ok (.if_icmp .ne 7, 3) := by decide +kernel
theorem dL_build_264 : decode cL_build 264 = .ok (.iconst 5, 1) := by decide +kernel
theorem dL_build_265 : decode cL_build 265 = .ok (.goto 18, 3) := by decide +kernel
theorem dL_build_268 : decode cL_build 268 = .ok (.iload 7, 2) := by decide +kernel
theorem dL_build_270 : decode cL_build 270 = .ok (.iconst 4, 1) := by decide +kernel
theorem dL_build_271 : decode cL_build 271 = .ok (.if_icmp .ne 9, 3) := by decide +kernel
theorem dL_build_274 : decode cL_build 274 = .ok (.sipush 3000, 3) := by decide +kernel
theorem dL_build_277 : decode cL_build 277 = .ok (.goto 6, 3) := by decide +kernel
theorem dL_build_280 : decode cL_build 280 = .ok (.sipush 300, 3) := by decide +kernel
theorem dL_build_283 : decode cL_build 283 = .ok (.invokestatic 10, 3) := by decide +kernel
theorem dL_build_286 : decode cL_build 286 = .ok (.istore 10, 2) := by decide +kernel
theorem dL_build_288 : decode cL_build 288 = .ok (.aload_n 0, 1) := by decide +kernel
theorem dL_build_289 : decode cL_build 289 = .ok (.iload 7, 2) := by decide +kernel
theorem dL_build_291 : decode cL_build 291 = .ok (.iload 8, 2) := by decide +kernel
theorem dL_build_293 : decode cL_build 293 = .ok (.iload 9, 2) := by decide +kernel
theorem dL_build_295 : decode cL_build 295 = .ok (.iload 10, 2) := by decide +kernel
theorem dL_build_297 : decode cL_build 297 = .ok (.invokevirtual 62, 3) := by decide +kernel
theorem dL_build_300 : decode cL_build 300 = .ok (.iload 5, 2) := by decide +kernel
theorem dL_build_302 : decode cL_build 302 = .ok (.if_icmp .ne 51, 3) := by decide +kernel
theorem dL_build_305 : decode cL_build 305 = .ok (.aload_n 0, 1) := by decide +kernel
theorem dL_build_306 : decode cL_build 306 = .ok (.iload 5, 2) := by decide +kernel
theorem dL_build_308 : decode cL_build 308 = .ok (.iconst 0, 1) := by decide +kernel
theorem dL_build_309 : decode cL_build 309 = .ok (.invokevirtual 66, 3) := by decide +kernel
theorem dL_build_312 : decode cL_build 312 = .ok (.iload 7, 2) := by decide +kernel
theorem dL_build_314 : decode cL_build 314 = .ok (.if_icmp .ne 39, 3) := by decide +kernel
theorem dL_build_317 : decode cL_build 317 = .ok (.aload_n 0, 1) := by decide +kernel
theorem dL_build_318 : decode cL_build 318 = .ok (.iload 5, 2) := by decide +kernel
theorem dL_build_320 : decode cL_build 320 = .ok (.iconst 1, 1) := by decide +kernel
theorem dL_build_321 : decode cL_build 321 = .ok (.invokevirtual 66, 3) := by decide +kernel
theorem dL_build_324 : decode cL_build 324 = .ok (.iload 8, 2) := by decide +kernel
theorem dL_build_326 : decode cL_build 326 = .ok (.if_icmp .ne 27, 3) := by decide +kernel
theorem dL_build_329 : decode cL_build 329 = .ok (.aload_n 0, 1) := by decide +kernel
theorem dL_build_330 : decode cL_build 330 = .ok (.iload 5, 2) := by decide +kernel
theorem dL_build_332 : decode cL_build 332 = .ok (.iconst 2, 1) := by decide +kernel
theorem dL_build_333 : decode cL_build 333 = .ok (.invokevirtual 66, 3) := by decide +kernel
theorem dL_build_336 : decode cL_build 336 = .ok (.iload 9, 2) := by decide +kernel
theorem dL_build_338 : decode cL_build 338 = .ok (.if_icmp .ne 15, 3) := by decide +kernel
theorem dL_build_341 : decode cL_build 341 = .ok (.aload_n 0, 1) := by decide +kernel
theorem dL_build_342 : decode cL_build 342 = .ok (.iload 5, 2) := by decide +kernel
theorem dL_build_344 : decode cL_build 344 = .ok (.iconst 3, 1) := by decide +kernel
theorem dL_build_345 : decode cL_build 345 = .ok (.invokevirtual 66, 3) := by decide +kernel
theorem dL_build_348 : decode cL_build 348 = .ok (.iload 10, 2) := by decide +kernel
theorem dL_build_350 : decode cL_build 350 = .ok (.if_icmp .eq 5, 3) := by decide +kernel
theorem dL_build_353 : decode cL_build 353 = .ok (.iconst 0, 1) := by decide +kernel
theorem dL_build_354 : decode cL_build 354 = .ok (.ireturn, 1) := by decide +kernel
theorem dL_build_355 : decode cL_build 355 = .ok (.iinc 5 1, 3) := by decide +kernel
theorem dL_build_358 : decode cL_build 358 = .ok (.goto (-183), 3) := by decide +kernel
theorem dL_build_361 : decode cL_build 361 = .ok (.aload_n 1, 1) := by decide +kernel
theorem dL_build_362 : decode cL_build 362 = .ok (.bipush 23, 2) := by decide +kernel
theorem dL_build_364 : decode cL_build 364 = .ok (.invokestatic 45, 3) := by decide +kernel
theorem dL_build_367 : decode cL_build 367 = .ok (.iconst 3, 1) := by decide +kernel
theorem dL_build_368 : decode cL_build 368 = .ok (.invokestatic 10, 3) := by decide +kernel
theorem dL_build_371 : decode cL_build 371 = .ok (.istore 5, 2) := by decide +kernel
theorem dL_build_373 : decode cL_build 373 = .ok (.aload_n 0, 1) := by decide +kernel
theorem dL_build_374 : decode cL_build 374 = .ok (.iload 5, 2) := by decide +kernel
theorem dL_build_376 : decode cL_build 376 = .ok (.invokevirtual 69, 3) := by decide +kernel
theorem dL_build_379 : decode cL_build 379 = .ok (.istore 6, 2) := by decide +kernel
theorem dL_build_381 : decode cL_build 381 = .ok (.iload 6, 2) := by decide +kernel
theorem dL_build_383 : decode cL_build 383 = .ok (.iload 5, 2) := by decide +kernel
theorem dL_build_385 : decode cL_build 385 = .ok (.ifCond .ne 8, 3) := by decide +kernel
theorem dL_build_388 : decode cL_build 388 = .ok (.bipush (-5), 2) := by decide +kernel
theorem dL_build_390 : decode cL_build 390 = .ok (.goto 4, 3) := by decide +kernel
theorem dL_build_393 : decode cL_build 393 = .ok (.iconst 0, 1) := by decide +kernel
theorem dL_build_394 : decode cL_build 394 = .ok (.if_icmp .ne 43, 3) := by decide +kernel
theorem dL_build_397 : decode cL_build 397 = .ok (.aload_n 0, 1) := by decide +kernel
theorem dL_build_398 : decode cL_build 398 = .ok (.iconst 0, 1) := by decide +kernel
theorem dL_build_399 : decode cL_build 399 = .ok (.invokevirtual 72, 3) := by decide +kernel
theorem dL_build_402 : decode cL_build 402 = .ok (.iload_n 2, 1) := by decide +kernel
theorem dL_build_403 : decode cL_build 403 = .ok (.if_icmp .ne 34, 3) := by decide +kernel
theorem dL_build_406 : decode cL_build 406 = .ok (.aload_n 0, 1) := by decide +kernel
theorem dL_build_407 : decode cL_build 407 = .ok (.iconst 1, 1) := by decide +kernel
theorem dL_build_408 : decode cL_build 408 = .ok (.invokevirtual 72, 3) := by decide +kernel
theorem dL_build_411 : decode cL_build 411 = .ok (.iload 4, 2) := by decide +kernel
theorem dL_build_413 : decode cL_build 413 = .ok (.if_icmp .ne 24, 3) := by decide +kernel
theorem dL_build_416 : decode cL_build 416 = .ok (.aload_n 0, 1) := by decide +kernel
theorem dL_build_417 : decode cL_build 417 = .ok (.iconst 4, 1) := by decide +kernel
theorem dL_build_418 : decode cL_build 418 = .ok (.invokevirtual 72, 3) := by decide +kernel
theorem dL_build_421 : decode cL_build 421 = .ok (.iload_n 3, 1) := by decide +kernel
theorem dL_build_422 : decode cL_build 422 = .ok (.if_icmp .ne 15, 3) := by decide +kernel
theorem dL_build_425 : decode cL_build 425 = .ok (.aload_n 0, 1) := by decide +kernel
theorem dL_build_426 : decode cL_build 426 = .ok (.iconst 5, 1) := by decide +kernel
theorem dL_build_427 : decode cL_build 427 = .ok (.invokevirtual 72, 3) := by decide +kernel
theorem dL_build_430 : decode cL_build 430 = .ok (.ifCond .ne 7, 3) := by decide +kernel
theorem dL_build_433 : decode cL_build 433 = .ok (.iconst 1, 1) := by decide +kernel
theorem dL_build_434 : decode cL_build 434 = .ok (.goto 4, 3) := by decide +kernel
theorem dL_build_437 : decode cL_build 437 = .ok (.iconst 0, 1) := by decide +kernel
theorem dL_build_438 : decode cL_build 438 = .ok (.ireturn, 1) := by decide +kernel
theorem dL_truth_0 : decode cL_truth 0 = .ok (.iconst 0, 1) := by decide +kernel
theorem dL_truth_1 : decode cL_truth 1 = .ok (.istore_n 3, 1) := by decide +kernel
theorem dL_truth_2 : decode cL_truth 2 = .ok (.iconst 0, 1) := by decide +kernel
theorem dL_truth_3 : decode cL_truth 3 = .ok (.istore 4, 2) := by decide +kernel
theorem dL_truth_5 : decode cL_truth 5 = .ok (.sipush 1000, 3) := by decide +kernel
theorem dL_truth_8 : decode cL_truth 8 = .ok (.istore 5, 2) := by decide +kernel
theorem dL_truth_10 : decode cL_truth 10 = .ok (.iconst (-1), 1) := by decide +kernel
theorem dL_truth_11 : decode cL_truth 11 = .ok (.istore 6, 2) := by decide +kernel
theorem dL_truth_13 : decode cL_truth 13 = .ok (.iconst 0, 1) := by decide +kernel
theorem dL_truth_14 : decode cL_truth 14 = .ok (.istore 7, 2) := by decide +kernel
theorem dL_truth_16 : decode cL_truth 16 = .ok (.iconst 0, 1) := by decide +kernel
theorem dL_truth_17 : decode cL_truth 17 = .ok (.istore 8, 2) := by decide +kernel
theorem dL_truth_19 : decode cL_truth 19 = .ok (.iload 8, 2) := by decide +kernel
theorem dL_truth_21 : decode cL_truth 21 = .ok (.aload_n 0, 1) := by decide +kernel
theorem dL_truth_22 : decode cL_truth 22 = .ok (.iconst 0, 1) := by decide +kernel
theorem dL_truth_23 : decode cL_truth 23 = .ok (.invokevirtual 72, 3) := by decide +kernel
theorem dL_truth_26 : decode cL_truth 26 = .ok (.if_icmp .ge 138, 3) := by decide +kernel
theorem dL_truth_29 : decode cL_truth 29 = .ok (.aload_n 1, 1) := by decide +kernel
theorem dL_truth_30 : decode cL_truth 30 = .ok (.iconst 1, 1) := by decide +kernel
theorem dL_truth_31 : decode cL_truth 31 = .ok (.iconst 2, 1) := by decide +kernel
theorem dL_truth_32 : decode cL_truth 32 = .ok (.iload 8, 2) := by decide +kernel
theorem dL_truth_34 : decode cL_truth 34 = .ok (.imul, 1) := by decide +kernel
theorem dL_truth_35 : decode cL_truth 35 = .ok (.iadd, 1) := by decide +kernel
theorem dL_truth_36 : decode cL_truth 36 = .ok (.invokestatic 45, 3) := by decide +kernel
theorem dL_truth_39 : decode cL_truth 39 = .ok (.istore 9, 2) := by decide +kernel
theorem dL_truth_41 : decode cL_truth 41 = .ok (.iconst 0, 1) := by decide +kernel
theorem dL_truth_42 : decode cL_truth 42 = .ok (.istore 10, 2) := by decide +kernel
theorem dL_truth_44 : decode cL_truth 44 = .ok (.iload 10, 2) := by decide +kernel
theorem dL_truth_46 : decode cL_truth 46 = .ok (.iload 9, 2) := by decide +kernel
theorem dL_truth_48 : decode cL_truth 48 = .ok (.invokestatic 38, 3) := by decide +kernel
theorem dL_truth_51 : decode cL_truth 51 = .ok (.if_icmp .ge 107, 3) := by decide +kernel
theorem dL_truth_54 : decode cL_truth 54 = .ok (.aload_n 0, 1) := by decide +kernel
theorem dL_truth_55 : decode cL_truth 55 = .ok (.iload_n 2, 1) := by decide +kernel
theorem dL_truth_56 : decode cL_truth 56 = .ok (.iconst 1, 1) := by decide +kernel
theorem dL_truth_57 : decode cL_truth 57 = .ok (.invokevirtual 66, 3) := by decide +kernel
theorem dL_truth_60 : decode cL_truth 60 = .ok (.iload 9, 2) := by decide +kernel
theorem dL_truth_62 : decode cL_truth 62 = .ok (.invokestatic 32, 3) := by decide +kernel
theorem dL_truth_65 : decode cL_truth 65 = .ok (.ishr, 1) := by decide +kernel
theorem dL_truth_66 : decode cL_truth 66 = .ok (.iconst 1, 1) := by decide +kernel
theorem dL_truth_67 : decode cL_truth 67 = .ok (.iand, 1) := by decide +kernel
theorem dL_truth_68 : decode cL_truth 68 = .ok (.iconst 1, 1) := by decide +kernel
theorem dL_truth_69 : decode cL_truth 69 = .ok (.if_icmp .ne 89, 3) := by decide +kernel
theorem dL_truth_72 : decode cL_truth 72 = .ok (.iload 9, 2) := by decide +kernel
theorem dL_truth_74 : decode cL_truth 74 = .ok (.aload_n 1, 1) := by decide +kernel
theorem dL_truth_75 : decode cL_truth 75 = .ok (.iconst 2, 1) := by decide +kernel
theorem dL_truth_76 : decode cL_truth 76 = .ok (.iconst 2, 1) := by decide +kernel
theorem dL_truth_77 : decode cL_truth 77 = .ok (.iload 8, 2) := by decide +kernel
theorem dL_truth_79 : decode cL_truth 79 = .ok (.imul, 1) := by decide +kernel
theorem dL_truth_80 : decode cL_truth 80 = .ok (.iadd, 1) := by decide +kernel
theorem dL_truth_81 : decode cL_truth 81 = .ok (.invokestatic 45, 3) := by decide +kernel
theorem dL_truth_84 : decode cL_truth 84 = .ok (.iload 10, 2) := by decide +kernel
theorem dL_truth_86 : decode cL_truth 86 = .ok (.invokestatic 41, 3) := by decide +kernel
theorem dL_truth_89 : decode cL_truth 89 = .ok (.istore 11, 2) := by decide +kernel
theorem dL_truth_91 : decode cL_truth 91 = .ok (.iload_n 3, 1) := by decide +kernel
theorem dL_truth_92 : decode cL_truth 92 = .ok (.iload 11, 2) := by decide +kernel
theorem dL_truth_94 : decode cL_truth 94 = .ok (.iadd, 1) := by decide +kernel
theorem dL_truth_95 : decode cL_truth 95 = .ok (.istore_n 3, 1) := by decide +kernel
theorem dL_truth_96 : decode cL_truth 96 = .ok (.iload 4, 2) := by decide +kernel
theorem dL_truth_98 : decode cL_truth 98 = .ok (.iload 11, 2) := by decide +kernel
theorem dL_truth_100 : decode cL_truth 100 = .ok (.aload_n 0, 1) := by decide +kernel
theorem dL_truth_101 : decode cL_truth 101 = .ok (.iload_n 2, 1) := by decide +kernel
theorem dL_truth_102 : decode cL_truth 102 = .ok (.iconst 2, 1) := by decide +kernel
theorem dL_truth_103 : decode cL_truth 103 = .ok (.invokevirtual 66, 3) := by decide +kernel
theorem dL_truth_106 : decode cL_truth 106 = .ok (.if_icmp .lt 7, 3) := by decide +kernel
theorem dL_truth_109 : decode cL_truth 109 = .ok (.iconst 1, 1) := by decide +kernel
theorem dL_truth_110 : decode cL_truth 110 = .ok (.goto 4, 3) := by decide +kernel
theorem dL_truth_113 : decode cL_truth 113 = .ok (.iconst 0, 1) := by decide +kernel
theorem dL_truth_114 : decode cL_truth 114 = .ok (.iadd, 1) := by decide +kernel
theorem dL_truth_115 : decode cL_truth 115 = .ok (.istore 4, 2) := by decide +kernel
theorem dL_truth_117 : decode cL_truth 117 = .ok (.iload 11, 2) := by decide +kernel
theorem dL_truth_119 : decode cL_truth 119 = .ok (.iload 5, 2) := by decide +kernel
theorem dL_truth_121 : decode cL_truth 121 = .ok (.if_icmp .ge 8, 3) := by decide +kernel
theorem dL_truth_124 : decode cL_truth 124 = .ok (.iload 11, 2) := by decide +kernel
theorem dL_truth_126 : decode cL_truth 126 = .ok (.goto 5, 3) := by decide +kernel
theorem dL_truth_129 : decode cL_truth 129 = .ok (.iload 5, 2) := by decide +kernel
theorem dL_truth_131 : decode cL_truth 131 = .ok (.istore 5, 2) := by decide +kernel
theorem dL_truth_133 : decode cL_truth 133 = .ok (.iload 11, 2) := by decide +kernel
theorem dL_truth_135 : decode cL_truth 135 = .ok (.iload 6, 2) := by decide +kernel
theorem dL_truth_137 : decode cL_truth 137 = .ok (.if_icmp .le 8, 3) := by decide +kernel
theorem dL_truth_140 : decode cL_truth 140 = .ok (.iload 11, 2) := by decide +kernel
theorem dL_truth_142 : decode cL_truth 142 = .ok (.goto 5, 3) := by decide +kernel
theorem dL_truth_145 : decode cL_truth 145 = .ok (.iload 6, 2) := by decide +kernel
theorem dL_truth_147 : decode cL_truth 147 = .ok (.istore 6, 2) := by decide +kernel
theorem dL_truth_149 : decode cL_truth 149 = .ok (.iinc 7 1, 3) := by decide +kernel
theorem dL_truth_152 : decode cL_truth 152 = .ok (.iinc 10 1, 3) := by decide +kernel
theorem dL_truth_155 : decode cL_truth 155 = .ok (.goto (-111), 3) := by decide +kernel
theorem dL_truth_158 : decode cL_truth 158 = .ok (.iinc 8 1, 3) := by decide +kernel
theorem dL_truth_161 : decode cL_truth 161 = .ok (.goto (-142), 3) := by decide +kernel
theorem dL_truth_164 : decode cL_truth 164 = .ok (.aload_n 0, 1) := by decide +kernel
theorem dL_truth_165 : decode cL_truth 165 = .ok (.iload_n 2, 1) := by decide +kernel
theorem dL_truth_166 : decode cL_truth 166 = .ok (.iconst 0, 1) := by decide +kernel
theorem dL_truth_167 : decode cL_truth 167 = .ok (.invokevirtual 66, 3) := by decide +kernel
theorem dL_truth_170 : decode cL_truth 170 = .ok (.istore 8, 2) := by decide +kernel
theorem dL_truth_172 : decode cL_truth 172 = .ok (.iload 7, 2) := by decide +kernel
theorem dL_truth_174 : decode cL_truth 174 = .ok (.ifCond .ne 8, 3) := by decide +kernel
theorem dL_truth_177 : decode cL_truth 177 = .ok (.bipush (-5), 2) := by decide +kernel
theorem dL_truth_179 : decode cL_truth 179 = .ok (.goto 52, 3) := by decide +kernel
theorem dL_truth_182 : decode cL_truth 182 = .ok (.iload 8, 2) := by decide +kernel
theorem dL_truth_184 : decode cL_truth 184 = .ok (.ifCond .ne 7, 3) := by decide +kernel
theorem dL_truth_187 : decode cL_truth 187 = .ok (.iload_n 3, 1) := by decide +kernel
theorem dL_truth_188 : decode cL_truth 188 = .ok (.goto 43, 3) := by decide +kernel
theorem dL_truth_191 : decode cL_truth 191 = .ok (.iload 8, 2) := by decide +kernel
theorem dL_truth_193 : decode cL_truth 193 = .ok (.iconst 1, 1) := by decide +kernel
theorem dL_truth_194 : decode cL_truth 194 = .ok (.if_icmp .ne 8, 3) := by decide +kernel
theorem dL_truth_197 : decode cL_truth 197 = .ok (.iload 4, 2) := by decide +kernel
theorem dL_truth_199 : decode cL_truth 199 = .ok (.goto 32, 3) := by decide +kernel
theorem dL_truth_202 : decode cL_truth 202 = .ok (.iload 8, 2) := by decide +kernel
theorem dL_truth_204 : decode cL_truth 204 = .ok (.iconst 2, 1) := by decide +kernel
theorem dL_truth_205 : decode cL_truth 205 = .ok (.if_icmp .ne 8, 3) := by decide +kernel
theorem dL_truth_208 : decode cL_truth 208 = .ok (.iload 5, 2) := by decide +kernel
theorem dL_truth_210 : decode cL_truth 210 = .ok (.goto 21, 3) := by decide +kernel
theorem dL_truth_213 : decode cL_truth 213 = .ok (.iload 8, 2) := by decide +kernel
theorem dL_truth_215 : decode cL_truth 215 = .ok (.iconst 3, 1) := by decide +kernel
theorem dL_truth_216 : decode cL_truth 216 = .ok (.if_icmp .ne 8, 3) := by decide +kernel
theorem dL_truth_219 : decode cL_truth 219 = .ok (.iload 6, 2) := by decide +kernel
theorem dL_truth_221 : decode cL_truth 221 = .ok (.goto 10, 3) := by decide +kernel
theorem dL_truth_224 : decode cL_truth 224 = .ok (.bipush 100, 2) := by decide +kernel
theorem dL_truth_226 : decode cL_truth 226 = .ok (.iload_n 3, 1) := by decide +kernel
theorem dL_truth_227 : decode cL_truth 227 = .ok (.imul, 1) := by decide +kernel
theorem dL_truth_228 : decode cL_truth 228 = .ok (.iload 7, 2) := by decide +kernel
theorem dL_truth_230 : decode cL_truth 230 = .ok (.idiv, 1) := by decide +kernel
theorem dL_truth_231 : decode cL_truth 231 = .ok (.ireturn, 1) := by decide +kernel
theorem dL_isSound_0 : decode cL_isSound 0 = .ok (.aload_n 0, 1) := by decide +kernel
theorem dL_isSound_1 : decode cL_isSound 1 = .ok (.iload_n 2, 1) := by decide +kernel
theorem dL_isSound_2 : decode cL_isSound 2 = .ok (.iconst 5, 1) := by decide +kernel
theorem dL_isSound_3 : decode cL_isSound 3 = .ok (.invokevirtual 66, 3) := by decide +kernel
theorem dL_isSound_6 : decode cL_isSound 6 = .ok (.istore 4, 2) := by decide +kernel
theorem dL_isSound_8 : decode cL_isSound 8 = .ok (.aload_n 0, 1) := by decide +kernel
theorem dL_isSound_9 : decode cL_isSound 9 = .ok (.iload_n 2, 1) := by decide +kernel
theorem dL_isSound_10 : decode cL_isSound 10 = .ok (.bipush 6, 2) := by decide +kernel
theorem dL_isSound_12 : decode cL_isSound 12 = .ok (.invokevirtual 66, 3) := by decide +kernel
theorem dL_isSound_15 : decode cL_isSound 15 = .ok (.istore 5, 2) := by decide +kernel
theorem dL_isSound_17 : decode cL_isSound 17 = .ok (.aload_n 0, 1) := by decide +kernel
theorem dL_isSound_18 : decode cL_isSound 18 = .ok (.iload_n 2, 1) := by decide +kernel
theorem dL_isSound_19 : decode cL_isSound 19 = .ok (.bipush 7, 2) := by decide +kernel
theorem dL_isSound_21 : decode cL_isSound 21 = .ok (.invokevirtual 66, 3) := by decide +kernel
theorem dL_isSound_24 : decode cL_isSound 24 = .ok (.istore 6, 2) := by decide +kernel
theorem dL_isSound_26 : decode cL_isSound 26 = .ok (.aload_n 0, 1) := by decide +kernel
theorem dL_isSound_27 : decode cL_isSound 27 = .ok (.aload_n 1, 1) := by decide +kernel
theorem dL_isSound_28 : decode cL_isSound 28 = .ok (.iload_n 2, 1) := by decide +kernel
theorem dL_isSound_29 : decode cL_isSound 29 = .ok (.invokestatic 75, 3) := by decide +kernel
theorem dL_isSound_32 : decode cL_isSound 32 = .ok (.istore 7, 2) := by decide +kernel
theorem dL_isSound_34 : decode cL_isSound 34 = .ok (.aload_n 0, 1) := by decide +kernel
theorem dL_isSound_35 : decode cL_isSound 35 = .ok (.iload_n 2, 1) := by decide +kernel
theorem dL_isSound_36 : decode cL_isSound 36 = .ok (.iconst 4, 1) := by decide +kernel
theorem dL_isSound_37 : decode cL_isSound 37 = .ok (.invokevirtual 66, 3) := by decide +kernel
theorem dL_isSound_40 : decode cL_isSound 40 = .ok (.iconst 1, 1) := by decide +kernel
theorem dL_isSound_41 : decode cL_isSound 41 = .ok (.if_icmp .ne 7, 3) := by decide +kernel
theorem dL_isSound_44 : decode cL_isSound 44 = .ok (.iconst 1, 1) := by decide +kernel
theorem dL_isSound_45 : decode cL_isSound 45 = .ok (.goto 4, 3) := by decide +kernel
theorem dL_isSound_48 : decode cL_isSound 48 = .ok (.iconst 0, 1) := by decide +kernel
theorem dL_isSound_49 : decode cL_isSound 49 = .ok (.istore 8, 2) := by decide +kernel
theorem dL_isSound_51 : decode cL_isSound 51 = .ok (.iload 7, 2) := by decide +kernel
theorem dL_isSound_53 : decode cL_isSound 53 = .ok (.bipush (-5), 2) := by decide +kernel
theorem dL_isSound_55 : decode cL_isSound 55 = .ok (.if_icmp .ne 45, 3) := by decide +kernel
theorem dL_isSound_58 : decode cL_isSound 58 = .ok (.iload 4, 2) := by decide +kernel
theorem dL_isSound_60 : decode cL_isSound 60 = .ok (.bipush (-5), 2) := by decide +kernel
theorem dL_isSound_62 : decode cL_isSound 62 = .ok (.if_icmp .ne 36, 3) := by decide +kernel
theorem dL_isSound_65 : decode cL_isSound 65 = .ok (.iload 5, 2) := by decide +kernel
theorem dL_isSound_67 : decode cL_isSound 67 = .ok (.bipush (-5), 2) := by decide +kernel
theorem dL_isSound_69 : decode cL_isSound 69 = .ok (.if_icmp .ne 29, 3) := by decide +kernel
theorem dL_isSound_72 : decode cL_isSound 72 = .ok (.iload 6, 2) := by decide +kernel
theorem dL_isSound_74 : decode cL_isSound 74 = .ok (.bipush (-5), 2) := by decide +kernel
theorem dL_isSound_76 : decode cL_isSound 76 = .ok (.if_icmp .ne 22, 3) := by decide +kernel
theorem dL_isSound_79 : decode cL_isSound 79 = .ok (.iload 8, 2) := by decide +kernel
theorem dL_isSound_81 : decode cL_isSound 81 = .ok (.ifCond .ne 17, 3) := by decide +kernel
theorem dL_isSound_84 : decode cL_isSound 84 = .ok (.aload_n 0, 1) := by decide +kernel
theorem dL_isSound_85 : decode cL_isSound 85 = .ok (.iload_n 2, 1) := by decide +kernel
theorem dL_isSound_86 : decode cL_isSound 86 = .ok (.bipush 11, 2) := by decide +kernel
theorem dL_isSound_88 : decode cL_isSound 88 = .ok (.invokevirtual 66, 3) := by decide +kernel
theorem dL_isSound_91 : decode cL_isSound 91 = .ok (.ifCond .ne 7, 3) := by decide +kernel
theorem dL_isSound_94 : decode cL_isSound 94 = .ok (.iconst 1, 1) := by decide +kernel
theorem dL_isSound_95 : decode cL_isSound 95 = .ok (.goto 4, 3) := by decide +kernel
theorem dL_isSound_98 : decode cL_isSound 98 = .ok (.iconst 0, 1) := by decide +kernel
theorem dL_isSound_99 : decode cL_isSound 99 = .ok (.ireturn, 1) := by decide +kernel
theorem dL_isSound_100 : decode cL_isSound 100 = .ok (.iload 4, 2) := by decide +kernel
theorem dL_isSound_102 : decode cL_isSound 102 = .ok (.iload 7, 2) := by decide +kernel
theorem dL_isSound_104 : decode cL_isSound 104 = .ok (.if_icmp .gt 47, 3) := by decide +kernel
theorem dL_isSound_107 : decode cL_isSound 107 = .ok (.iload 7, 2) := by decide +kernel
theorem dL_isSound_109 : decode cL_isSound 109 = .ok (.iload 5, 2) := by decide +kernel
theorem dL_isSound_111 : decode cL_isSound 111 = .ok (.if_icmp .gt 40, 3) := by decide +kernel
theorem dL_isSound_114 : decode cL_isSound 114 = .ok (.iload 4, 2) := by decide +kernel
theorem dL_isSound_116 : decode cL_isSound 116 = .ok (.iload 6, 2) := by decide +kernel
theorem dL_isSound_118 : decode cL_isSound 118 = .ok (.if_icmp .gt 33, 3) := by decide +kernel
theorem dL_isSound_121 : decode cL_isSound 121 = .ok (.iload 6, 2) := by decide +kernel
theorem dL_isSound_123 : decode cL_isSound 123 = .ok (.iload 5, 2) := by decide +kernel
theorem dL_isSound_125 : decode cL_isSound 125 = .ok (.if_icmp .gt 26, 3) := by decide +kernel
theorem dL_isSound_128 : decode cL_isSound 128 = .ok (.iload 4, 2) := by decide +kernel
theorem dL_isSound_130 : decode cL_isSound 130 = .ok (.aload_n 3, 1) := by decide +kernel
theorem dL_isSound_131 : decode cL_isSound 131 = .ok (.iload_n 2, 1) := by decide +kernel
theorem dL_isSound_132 : decode cL_isSound 132 = .ok (.iaload, 1) := by decide +kernel
theorem dL_isSound_133 : decode cL_isSound 133 = .ok (.if_icmp .lt 18, 3) := by decide +kernel
theorem dL_isSound_136 : decode cL_isSound 136 = .ok (.iload 5, 2) := by decide +kernel
theorem dL_isSound_138 : decode cL_isSound 138 = .ok (.aload_n 3, 1) := by decide +kernel
theorem dL_isSound_139 : decode cL_isSound 139 = .ok (.bipush 6, 2) := by decide +kernel
theorem dL_isSound_141 : decode cL_isSound 141 = .ok (.iload_n 2, 1) := by decide +kernel
theorem dL_isSound_142 : decode cL_isSound 142 = .ok (.iadd, 1) := by decide +kernel
theorem dL_isSound_143 : decode cL_isSound 143 = .ok (.iaload, 1) := by decide +kernel
theorem dL_isSound_144 : decode cL_isSound 144 = .ok (.if_icmp .gt 7, 3) := by decide +kernel
theorem dL_isSound_147 : decode cL_isSound 147 = .ok (.iconst 1, 1) := by decide +kernel
theorem dL_isSound_148 : decode cL_isSound 148 = .ok (.goto 4, 3) := by decide +kernel
theorem dL_isSound_151 : decode cL_isSound 151 = .ok (.iconst 0, 1) := by decide +kernel
theorem dL_isSound_152 : decode cL_isSound 152 = .ok (.istore 9, 2) := by decide +kernel
theorem dL_isSound_154 : decode cL_isSound 154 = .ok (.aload_n 0, 1) := by decide +kernel
theorem dL_isSound_155 : decode cL_isSound 155 = .ok (.iload_n 2, 1) := by decide +kernel
theorem dL_isSound_156 : decode cL_isSound 156 = .ok (.bipush 11, 2) := by decide +kernel
theorem dL_isSound_158 : decode cL_isSound 158 = .ok (.invokevirtual 66, 3) := by decide +kernel
theorem dL_isSound_161 : decode cL_isSound 161 = .ok (.aload_n 0, 1) := by decide +kernel
theorem dL_isSound_162 : decode cL_isSound 162 = .ok (.iload_n 2, 1) := by decide +kernel
theorem dL_isSound_163 : decode cL_isSound 163 = .ok (.bipush 12, 2) := by decide +kernel
theorem dL_isSound_165 : decode cL_isSound 165 = .ok (.invokevirtual 66, 3) := by decide +kernel
theorem dL_isSound_168 : decode cL_isSound 168 = .ok (.if_icmp .ne 7, 3) := by decide +kernel
theorem dL_isSound_171 : decode cL_isSound 171 = .ok (.iconst 1, 1) := by decide +kernel
theorem dL_isSound_172 : decode cL_isSound 172 = .ok (.goto 4, 3) := by decide +kernel
theorem dL_isSound_175 : decode cL_isSound 175 = .ok (.iconst 0, 1) := by decide +kernel
theorem dL_isSound_176 : decode cL_isSound 176 = .ok (.istore 10, 2) := by decide +kernel
theorem dL_isSound_178 : decode cL_isSound 178 = .ok (.iload 9, 2) := by decide +kernel
theorem dL_isSound_180 : decode cL_isSound 180 = .ok (.ifCond .eq 50, 3) := by decide +kernel
theorem dL_isSound_183 : decode cL_isSound 183 = .ok (.iload 10, 2) := by decide +kernel
theorem dL_isSound_185 : decode cL_isSound 185 = .ok (.ifCond .eq 22, 3) := by decide +kernel
theorem dL_isSound_188 : decode cL_isSound 188 = .ok (.iload 4, 2) := by decide +kernel
theorem dL_isSound_190 : decode cL_isSound 190 = .ok (.iload 5, 2) := by decide +kernel
theorem dL_isSound_192 : decode cL_isSound 192 = .ok (.if_icmp .ne 38, 3) := by decide +kernel
theorem dL_isSound_195 : decode cL_isSound 195 = .ok (.iload 6, 2) := by decide +kernel
theorem dL_isSound_197 : decode cL_isSound 197 = .ok (.iload 7, 2) := by decide +kernel
theorem dL_isSound_199 : decode cL_isSound 199 = .ok (.if_icmp .ne 31, 3) := by decide +kernel
theorem dL_isSound_202 : decode cL_isSound 202 = .ok (.iload 8, 2) := by decide +kernel
theorem dL_isSound_204 : decode cL_isSound 204 = .ok (.ifCond .eq 26, 3) := by decide +kernel
theorem dL_isSound_207 : decode cL_isSound 207 = .ok (.iload 8, 2) := by decide +kernel
theorem dL_isSound_209 : decode cL_isSound 209 = .ok (.ifCond .ne 17, 3) := by decide +kernel
theorem dL_isSound_212 : decode cL_isSound 212 = .ok (.iload 5, 2) := by decide +kernel
theorem dL_isSound_214 : decode cL_isSound 214 = .ok (.iload 4, 2) := by decide +kernel
theorem dL_isSound_216 : decode cL_isSound 216 = .ok (.isub, 1) := by decide +kernel
theorem dL_isSound_217 : decode cL_isSound 217 = .ok (.aload_n 0, 1) := by decide +kernel
theorem dL_isSound_218 : decode cL_isSound 218 = .ok (.iload_n 2, 1) := by decide +kernel
theorem dL_isSound_219 : decode cL_isSound 219 = .ok (.iconst 3, 1) := by decide +kernel
theorem dL_isSound_220 : decode cL_isSound 220 = .ok (.invokevirtual 66, 3) := by decide +kernel
theorem dL_isSound_223 : decode cL_isSound 223 = .ok (.if_icmp .le 7, 3) := by decide +kernel
theorem dL_isSound_226 : decode cL_isSound 226 = .ok (.iconst 1, 1) := by decide +kernel
theorem dL_isSound_227 : decode cL_isSound 227 = .ok (.goto 4, 3) := by decide +kernel
theorem dL_isSound_230 : decode cL_isSound 230 = .ok (.iconst 0, 1) := by decide +kernel
theorem dL_isSound_231 : decode cL_isSound 231 = .ok (.istore 9, 2) := by decide +kernel
theorem dL_isSound_233 : decode cL_isSound 233 = .ok (.iload 8, 2) := by decide +kernel
theorem dL_isSound_235 : decode cL_isSound 235 = .ok (.ifCond .ne 53, 3) := by decide +kernel
theorem dL_isSound_238 : decode cL_isSound 238 = .ok (.iload 9, 2) := by decide +kernel
theorem dL_isSound_240 : decode cL_isSound 240 = .ok (.ifCond .eq 42, 3) := by decide +kernel
theorem dL_isSound_243 : decode cL_isSound 243 = .ok (.aload_n 0, 1) := by decide +kernel
theorem dL_isSound_244 : decode cL_isSound 244 = .ok (.iload_n 2, 1) := by decide +kernel
theorem dL_isSound_245 : decode cL_isSound 245 = .ok (.bipush 8, 2) := by decide +kernel
theorem dL_isSound_247 : decode cL_isSound 247 = .ok (.invokevirtual 66, 3) := by decide +kernel
theorem dL_isSound_250 : decode cL_isSound 250 = .ok (.bipush (-5), 2) := by decide +kernel
theorem dL_isSound_252 : decode cL_isSound 252 = .ok (.if_icmp .ne 30, 3) := by decide +kernel
theorem dL_isSound_255 : decode cL_isSound 255 = .ok (.aload_n 0, 1) := by decide +kernel
theorem dL_isSound_256 : decode cL_isSound 256 = .ok (.iload_n 2, 1) := by decide +kernel
theorem dL_isSound_257 : decode cL_isSound 257 = .ok (.bipush 10, 2) := by decide +kernel
theorem dL_isSound_259 : decode cL_isSound 259 = .ok (.invokevirtual 66, 3) := by decide +kernel
theorem dL_isSound_262 : decode cL_isSound 262 = .ok (.bipush (-5), 2) := by decide +kernel
theorem dL_isSound_264 : decode cL_isSound 264 = .ok (.if_icmp .ne 18, 3) := by decide +kernel
theorem dL_isSound_267 : decode cL_isSound 267 = .ok (.aload_n 3, 1) := by decide +kernel
theorem dL_isSound_268 : decode cL_isSound 268 = .ok (.bipush 12, 2) := by decide +kernel
theorem dL_isSound_270 : decode cL_isSound 270 = .ok (.iload_n 2, 1) := by decide +kernel
theorem dL_isSound_271 : decode cL_isSound 271 = .ok (.iadd, 1) := by decide +kernel
theorem dL_isSound_272 : decode cL_isSound 272 = .ok (.iaload, 1) := by decide +kernel
theorem dL_isSound_273 : decode cL_isSound 273 = .ok (.bipush (-5), 2) := by decide +kernel
theorem dL_isSound_275 : decode cL_isSound 275 = .ok (.if_icmp .ne 7, 3) := by decide +kernel
theorem dL_isSound_278 : decode cL_isSound 278 = .ok (.iconst 1, 1) := by decide +kernel
theorem dL_isSound_279 : decode cL_isSound 279 = .ok (.goto 4, 3) := by decide +kernel
theorem dL_isSound_282 : decode cL_isSound 282 = .ok (.iconst 0, 1) := by decide +kernel
theorem dL_isSound_283 : decode cL_isSound 283 = .ok (.istore 9, 2) := by decide +kernel
theorem dL_isSound_285 : decode cL_isSound 285 = .ok (.goto 102, 3) := by decide +kernel
theorem dL_isSound_288 : decode cL_isSound 288 = .ok (.aload_n 0, 1) := by decide +kernel
theorem dL_isSound_289 : decode cL_isSound 289 = .ok (.iload_n 2, 1) := by decide +kernel
theorem dL_isSound_290 : decode cL_isSound 290 = .ok (.bipush 10, 2) := by decide +kernel
theorem dL_isSound_292 : decode cL_isSound 292 = .ok (.invokevirtual 66, 3) := by decide +kernel
theorem dL_isSound_295 : decode cL_isSound 295 = .ok (.istore 11, 2) := by decide +kernel
theorem dL_isSound_297 : decode cL_isSound 297 = .ok (.iload 9, 2) := by decide +kernel
theorem dL_isSound_299 : decode cL_isSound 299 = .ok (.ifCond .eq 77, 3) := by decide +kernel
theorem dL_isSound_302 : decode cL_isSound 302 = .ok (.aload_n 0, 1) := by decide +kernel
theorem dL_isSound_303 : decode cL_isSound 303 = .ok (.iload_n 2, 1) := by decide +kernel
theorem dL_isSound_304 : decode cL_isSound 304 = .ok (.bipush 9, 2) := by decide +kernel
theorem dL_isSound_306 : decode cL_isSound 306 = .ok (.invokevirtual 66, 3) := by decide +kernel
theorem dL_isSound_309 : decode cL_isSound 309 = .ok (.aload_n 0, 1) := by decide +kernel
theorem dL_isSound_310 : decode cL_isSound 310 = .ok (.iload_n 2, 1) := by decide +kernel
theorem dL_isSound_311 : decode cL_isSound 311 = .ok (.bipush 8, 2) := by decide +kernel
theorem dL_isSound_313 : decode cL_isSound 313 = .ok (.invokevirtual 66, 3) := by decide +kernel
theorem dL_isSound_316 : decode cL_isSound 316 = .ok (.isub, 1) := by decide +kernel
theorem dL_isSound_317 : decode cL_isSound 317 = .ok (.aload_n 0, 1) := by decide +kernel
theorem dL_isSound_318 : decode cL_isSound 318 = .ok (.iload_n 2, 1) := by decide +kernel
theorem dL_isSound_319 : decode cL_isSound 319 = .ok (.iconst 3, 1) := by decide +kernel
theorem dL_isSound_320 : decode cL_isSound 320 = .ok (.invokevirtual 66, 3) := by decide +kernel
theorem dL_isSound_323 : decode cL_isSound 323 = .ok (.if_icmp .gt 53, 3) := by decide +kernel
theorem dL_isSound_326 : decode cL_isSound 326 = .ok (.aload_n 0, 1) := by decide +kernel
theorem dL_isSound_327 : decode cL_isSound 327 = .ok (.iload_n 2, 1) := by decide +kernel
theorem dL_isSound_328 : decode cL_isSound 328 = .ok (.bipush 8, 2) := by decide +kernel
theorem dL_isSound_330 : decode cL_isSound 330 = .ok (.invokevirtual 66, 3) := by decide +kernel
theorem dL_isSound_333 : decode cL_isSound 333 = .ok (.iload 7, 2) := by decide +kernel
theorem dL_isSound_335 : decode cL_isSound 335 = .ok (.if_icmp .gt 41, 3) := by decide +kernel
theorem dL_isSound_338 : decode cL_isSound 338 = .ok (.iload 7, 2) := by decide +kernel
theorem dL_isSound_340 : decode cL_isSound 340 = .ok (.aload_n 0, 1) := by decide +kernel
theorem dL_isSound_341 : decode cL_isSound 341 = .ok (.iload_n 2, 1) := by decide +kernel
theorem dL_isSound_342 : decode cL_isSound 342 = .ok (.bipush 9, 2) := by decide +kernel
theorem dL_isSound_344 : decode cL_isSound 344 = .ok (.invokevirtual 66, 3) := by decide +kernel
theorem dL_isSound_347 : decode cL_isSound 347 = .ok (.if_icmp .gt 29, 3) := by decide +kernel
theorem dL_isSound_350 : decode cL_isSound 350 = .ok (.aload_n 3, 1) := by decide +kernel
theorem dL_isSound_351 : decode cL_isSound 351 = .ok (.bipush 12, 2) := by decide +kernel
theorem dL_isSound_353 : decode cL_isSound 353 = .ok (.iload_n 2, 1) := by decide +kernel
theorem dL_isSound_354 : decode cL_isSound 354 = .ok (.iadd, 1) := by decide +kernel
theorem dL_isSound_355 : decode cL_isSound 355 = .ok (.iaload, 1) := by decide +kernel
theorem dL_isSound_356 : decode cL_isSound 356 = .ok (.bipush (-5), 2) := by decide +kernel
theorem dL_isSound_358 : decode cL_isSound 358 = .ok (.if_icmp .eq 14, 3) := by decide +kernel
theorem dL_isSound_361 : decode cL_isSound 361 = .ok (.aload_n 3, 1) := by decide +kernel
theorem dL_isSound_362 : decode cL_isSound 362 = .ok (.bipush 12, 2) := by decide +kernel
theorem dL_isSound_364 : decode cL_isSound 364 = .ok (.iload_n 2, 1) := by decide +kernel
theorem dL_isSound_365 : decode cL_isSound 365 = .ok (.iadd, 1) := by decide +kernel
theorem dL_isSound_366 : decode cL_isSound 366 = .ok (.iaload, 1) := by decide +kernel
theorem dL_isSound_367 : decode cL_isSound 367 = .ok (.iload 11, 2) := by decide +kernel
theorem dL_isSound_369 : decode cL_isSound 369 = .ok (.if_icmp .ne 7, 3) := by decide +kernel
theorem dL_isSound_372 : decode cL_isSound 372 = .ok (.iconst 1, 1) := by decide +kernel
theorem dL_isSound_373 : decode cL_isSound 373 = .ok (.goto 4, 3) := by decide +kernel
theorem dL_isSound_376 : decode cL_isSound 376 = .ok (.iconst 0, 1) := by decide +kernel
theorem dL_isSound_377 : decode cL_isSound 377 = .ok (.istore 9, 2) := by decide +kernel
theorem dL_isSound_379 : decode cL_isSound 379 = .ok (.aload_n 3, 1) := by decide +kernel
theorem dL_isSound_380 : decode cL_isSound 380 = .ok (.bipush 12, 2) := by decide +kernel
theorem dL_isSound_382 : decode cL_isSound 382 = .ok (.iload_n 2, 1) := by decide +kernel
theorem dL_isSound_383 : decode cL_isSound 383 = .ok (.iadd, 1) := by decide +kernel
theorem dL_isSound_384 : decode cL_isSound 384 = .ok (.iload 11, 2) := by decide +kernel
theorem dL_isSound_386 : decode cL_isSound 386 = .ok (.iastore, 1) := by decide +kernel
theorem dL_isSound_387 : decode cL_isSound 387 = .ok (.aload_n 3, 1) := by decide +kernel
theorem dL_isSound_388 : decode cL_isSound 388 = .ok (.iload_n 2, 1) := by decide +kernel
theorem dL_isSound_389 : decode cL_isSound 389 = .ok (.iload 4, 2) := by decide +kernel
theorem dL_isSound_391 : decode cL_isSound 391 = .ok (.iastore, 1) := by decide +kernel
theorem dL_isSound_392 : decode cL_isSound 392 = .ok (.aload_n 3, 1) := by decide +kernel
theorem dL_isSound_393 : decode cL_isSound 393 = .ok (.bipush 6, 2) := by decide +kernel
theorem dL_isSound_395 : decode cL_isSound 395 = .ok (.iload_n 2, 1) := by decide +kernel
theorem dL_isSound_396 : decode cL_isSound 396 = .ok (.iadd, 1) := by decide +kernel
theorem dL_isSound_397 : decode cL_isSound 397 = .ok (.iload 5, 2) := by decide +kernel
theorem dL_isSound_399 : decode cL_isSound 399 = .ok (.iastore, 1) := by decide +kernel
theorem dL_isSound_400 : decode cL_isSound 400 = .ok (.iload 9, 2) := by decide +kernel
theorem dL_isSound_402 : decode cL_isSound 402 = .ok (.ireturn, 1) := by decide +kernel
theorem dL_areSound_0 : decode cL_areSound 0 = .ok (.iconst 0, 1) := by decide +kernel
theorem dL_areSound_1 : decode cL_areSound 1 = .ok (.istore_n 3, 1) := by decide +kernel
theorem dL_areSound_2 : decode cL_areSound 2 = .ok (.iconst 0, 1) := by decide +kernel
theorem dL_areSound_3 : decode cL_areSound 3 = .ok (.istore 4, 2) := by decide +kernel
theorem dL_areSound_5 : decode cL_areSound 5 = .ok (.iload 4, 2) := by decide +kernel
theorem dL_areSound_7 : decode cL_areSound 7 = .ok (.aload_n 0, 1) := by decide +kernel
theorem dL_areSound_8 : decode cL_areSound 8 = .ok (.iconst 1, 1) := by decide +kernel
theorem dL_areSound_9 : decode cL_areSound 9 = .ok (.invokevirtual 72, 3) := by decide +kernel
theorem dL_areSound_12 : decode cL_areSound 12 = .ok (.if_icmp .ge 34, 3) := by decide +kernel
theorem dL_areSound_15 : decode cL_areSound 15 = .ok (.aload_n 0, 1) := by decide +kernel
theorem dL_areSound_16 : decode cL_areSound 16 = .ok (.aload_n 1, 1) := by decide +kernel
theorem dL_areSound_17 : decode cL_areSound 17 = .ok (.iload 4, 2) := by decide +kernel
theorem dL_areSound_19 : decode cL_areSound 19 = .ok (.aload_n 2, 1) := by decide +kernel
theorem dL_areSound_20 : decode cL_areSound 20 = .ok (.invokestatic 79, 3) := by decide +kernel
theorem dL_areSound_23 : decode cL_areSound 23 = .ok (.ifCond .ne 5, 3) := by decide +kernel
theorem dL_areSound_26 : decode cL_areSound 26 = .ok (.iconst 0, 1) := by decide +kernel
theorem dL_areSound_27 : decode cL_areSound 27 = .ok (.ireturn, 1) := by decide +kernel
theorem dL_areSound_28 : decode cL_areSound 28 = .ok (.iload_n 3, 1) := by decide +kernel
theorem dL_areSound_29 : decode cL_areSound 29 = .ok (.iconst 1, 1) := by decide +kernel
theorem dL_areSound_30 : decode cL_areSound 30 = .ok (.aload_n 0, 1) := by decide +kernel
theorem dL_areSound_31 : decode cL_areSound 31 = .ok (.iload 4, 2) := by decide +kernel
theorem dL_areSound_33 : decode cL_areSound 33 = .ok (.iconst 4, 1) := by decide +kernel
theorem dL_areSound_34 : decode cL_areSound 34 = .ok (.invokevirtual 66, 3) := by decide +kernel
theorem dL_areSound_37 : decode cL_areSound 37 = .ok (.isub, 1) := by decide +kernel
theorem dL_areSound_38 : decode cL_areSound 38 = .ok (.iadd, 1) := by decide +kernel
theorem dL_areSound_39 : decode cL_areSound 39 = .ok (.istore_n 3, 1) := by decide +kernel
theorem dL_areSound_40 : decode cL_areSound 40 = .ok (.iinc 4 1, 3) := by decide +kernel
theorem dL_areSound_43 : decode cL_areSound 43 = .ok (.goto (-38), 3) := by decide +kernel
theorem dL_areSound_46 : decode cL_areSound 46 = .ok (.iload_n 3, 1) := by decide +kernel
theorem dL_areSound_47 : decode cL_areSound 47 = .ok (.aload_n 0, 1) := by decide +kernel
theorem dL_areSound_48 : decode cL_areSound 48 = .ok (.iconst 2, 1) := by decide +kernel
theorem dL_areSound_49 : decode cL_areSound 49 = .ok (.invokevirtual 72, 3) := by decide +kernel
theorem dL_areSound_52 : decode cL_areSound 52 = .ok (.if_icmp .ne 7, 3) := by decide +kernel
theorem dL_areSound_55 : decode cL_areSound 55 = .ok (.iconst 1, 1) := by decide +kernel
theorem dL_areSound_56 : decode cL_areSound 56 = .ok (.goto 4, 3) := by decide +kernel
theorem dL_areSound_59 : decode cL_areSound 59 = .ok (.iconst 0, 1) := by decide +kernel
theorem dL_areSound_60 : decode cL_areSound 60 = .ok (.ireturn, 1) := by decide +kernel
theorem dL_law_0 : decode cL_law 0 = .ok (.new 24, 3) := by decide +kernel
theorem dL_law_3 : decode cL_law 3 = .ok (.dup, 1) := by decide +kernel
theorem dL_law_4 : decode cL_law 4 = .ok (.invokespecial 83, 3) := by decide +kernel
theorem dL_law_7 : decode cL_law 7 = .ok (.astore_n 1, 1) := by decide +kernel
theorem dL_law_8 : decode cL_law 8 = .ok (.bipush 18, 2) := by decide +kernel
theorem dL_law_10 : decode cL_law 10 = .ok (.newarray .int, 2) := by decide +kernel
theorem dL_law_12 : decode cL_law 12 = .ok (.astore_n 2, 1) := by decide +kernel
theorem dL_law_13 : decode cL_law 13 = .ok (.aload_n 1, 1) := by decide +kernel
theorem dL_law_14 : decode cL_law 14 = .ok (.aload_n 0, 1) := by decide +kernel
theorem dL_law_15 : decode cL_law 15 = .ok (.invokestatic 84, 3) := by decide +kernel
theorem dL_law_18 : decode cL_law 18 = .ok (.ifCond .ne 5, 3) := by decide +kernel
theorem dL_law_21 : decode cL_law 21 = .ok (.iconst 0, 1) := by decide +kernel
theorem dL_law_22 : decode cL_law 22 = .ok (.ireturn, 1) := by decide +kernel
theorem dL_law_23 : decode cL_law 23 = .ok (.iconst 0, 1) := by decide +kernel
theorem dL_law_24 : decode cL_law 24 = .ok (.istore_n 3, 1) := by decide +kernel
theorem dL_law_25 : decode cL_law 25 = .ok (.iload_n 3, 1) := by decide +kernel
theorem dL_law_26 : decode cL_law 26 = .ok (.bipush 6, 2) := by decide +kernel
theorem dL_law_28 : decode cL_law 28 = .ok (.if_icmp .ge 30, 3) := by decide +kernel
theorem dL_law_31 : decode cL_law 31 = .ok (.aload_n 2, 1) := by decide +kernel
theorem dL_law_32 : decode cL_law 32 = .ok (.iload_n 3, 1) := by decide +kernel
theorem dL_law_33 : decode cL_law 33 = .ok (.bipush (-5), 2) := by decide +kernel
theorem dL_law_35 : decode cL_law 35 = .ok (.iastore, 1) := by decide +kernel
theorem dL_law_36 : decode cL_law 36 = .ok (.aload_n 2, 1) := by decide +kernel
theorem dL_law_37 : decode cL_law 37 = .ok (.bipush 6, 2) := by decide +kernel
theorem dL_law_39 : decode cL_law 39 = .ok (.iload_n 3, 1) := by decide +kernel
theorem dL_law_40 : decode cL_law 40 = .ok (.iadd, 1) := by decide +kernel
theorem dL_law_41 : decode cL_law 41 = .ok (.ldc 88, 2) := by decide +kernel
theorem dL_law_43 : decode cL_law 43 = .ok (.iastore, 1) := by decide +kernel
theorem dL_law_44 : decode cL_law 44 = .ok (.aload_n 2, 1) := by decide +kernel
theorem dL_law_45 : decode cL_law 45 = .ok (.bipush 12, 2) := by decide +kernel
theorem dL_law_47 : decode cL_law 47 = .ok (.iload_n 3, 1) := by decide +kernel
theorem dL_law_48 : decode cL_law 48 = .ok (.iadd, 1) := by decide +kernel
theorem dL_law_49 : decode cL_law 49 = .ok (.bipush (-5), 2) := by decide +kernel
theorem dL_law_51 : decode cL_law 51 = .ok (.iastore, 1) := by decide +kernel
theorem dL_law_52 : decode cL_law 52 = .ok (.iinc 3 1, 3) := by decide +kernel
theorem dL_law_55 : decode cL_law 55 = .ok (.goto (-30), 3) := by decide +kernel
theorem dL_law_58 : decode cL_law 58 = .ok (.aload_n 1, 1) := by decide +kernel
theorem dL_law_59 : decode cL_law 59 = .ok (.aload_n 0, 1) := by decide +kernel
theorem dL_law_60 : decode cL_law 60 = .ok (.aload_n 2, 1) := by decide +kernel
theorem dL_law_61 : decode cL_law 61 = .ok (.invokestatic 89, 3) := by decide +kernel
theorem dL_law_64 : decode cL_law 64 = .ok (.ifCond .ne 5, 3) := by decide +kernel
theorem dL_law_67 : decode cL_law 67 = .ok (.iconst 0, 1) := by decide +kernel
theorem dL_law_68 : decode cL_law 68 = .ok (.ireturn, 1) := by decide +kernel
theorem dL_law_69 : decode cL_law 69 = .ok (.aload_n 1, 1) := by decide +kernel
theorem dL_law_70 : decode cL_law 70 = .ok (.iconst 1, 1) := by decide +kernel
theorem dL_law_71 : decode cL_law 71 = .ok (.invokevirtual 72, 3) := by decide +kernel
theorem dL_law_74 : decode cL_law 74 = .ok (.istore_n 3, 1) := by decide +kernel
theorem dL_law_75 : decode cL_law 75 = .ok (.iconst 0, 1) := by decide +kernel
theorem dL_law_76 : decode cL_law 76 = .ok (.istore 4, 2) := by decide +kernel
theorem dL_law_78 : decode cL_law 78 = .ok (.aload_n 1, 1) := by decide +kernel
theorem dL_law_79 : decode cL_law 79 = .ok (.iconst 5, 1) := by decide +kernel
theorem dL_law_80 : decode cL_law 80 = .ok (.invokevirtual 72, 3) := by decide +kernel
theorem dL_law_83 : decode cL_law 83 = .ok (.aload_n 1, 1) := by decide +kernel
theorem dL_law_84 : decode cL_law 84 = .ok (.iconst 4, 1) := by decide +kernel
theorem dL_law_85 : decode cL_law 85 = .ok (.invokevirtual 72, 3) := by decide +kernel
theorem dL_law_88 : decode cL_law 88 = .ok (.if_icmp .ge 315, 3) := by decide +kernel
theorem dL_law_91 : decode cL_law 91 = .ok (.iload 4, 2) := by decide +kernel
theorem dL_law_93 : decode cL_law 93 = .ok (.bipush 24, 2) := by decide +kernel
theorem dL_law_95 : decode cL_law 95 = .ok (.if_icmp .ge 308, 3) := by decide +kernel
theorem dL_law_98 : decode cL_law 98 = .ok (.aload_n 0, 1) := by decide +kernel
theorem dL_law_99 : decode cL_law 99 = .ok (.bipush 24, 2) := by decide +kernel
theorem dL_law_101 : decode cL_law 101 = .ok (.iload 4, 2) := by decide +kernel
theorem dL_law_103 : decode cL_law 103 = .ok (.iadd, 1) := by decide +kernel
theorem dL_law_104 : decode cL_law 104 = .ok (.invokestatic 45, 3) := by decide +kernel
theorem dL_law_107 : decode cL_law 107 = .ok (.iload_n 3, 1) := by decide +kernel
theorem dL_law_108 : decode cL_law 108 = .ok (.invokestatic 10, 3) := by decide +kernel
theorem dL_law_111 : decode cL_law 111 = .ok (.istore 5, 2) := by decide +kernel
theorem dL_law_113 : decode cL_law 113 = .ok (.aload_n 1, 1) := by decide +kernel
theorem dL_law_114 : decode cL_law 114 = .ok (.iload 5, 2) := by decide +kernel
theorem dL_law_116 : decode cL_law 116 = .ok (.invokevirtual 93, 3) := by decide +kernel
theorem dL_law_119 : decode cL_law 119 = .ok (.istore 6, 2) := by decide +kernel
theorem dL_law_121 : decode cL_law 121 = .ok (.aload_n 1, 1) := by decide +kernel
theorem dL_law_122 : decode cL_law 122 = .ok (.iconst 0, 1) := by decide +kernel
theorem dL_law_123 : decode cL_law 123 = .ok (.invokevirtual 96, 3) := by decide +kernel
theorem dL_law_126 : decode cL_law 126 = .ok (.istore 7, 2) := by decide +kernel
theorem dL_law_128 : decode cL_law 128 = .ok (.aload_n 1, 1) := by decide +kernel
theorem dL_law_129 : decode cL_law 129 = .ok (.iconst 1, 1) := by decide +kernel
theorem dL_law_130 : decode cL_law 130 = .ok (.invokevirtual 96, 3) := by decide +kernel
theorem dL_law_133 : decode cL_law 133 = .ok (.istore 8, 2) := by decide +kernel
theorem dL_law_135 : decode cL_law 135 = .ok (.aload_n 1, 1) := by decide +kernel
theorem dL_law_136 : decode cL_law 136 = .ok (.iconst 5, 1) := by decide +kernel
theorem dL_law_137 : decode cL_law 137 = .ok (.invokevirtual 72, 3) := by decide +kernel
theorem dL_law_140 : decode cL_law 140 = .ok (.istore 9, 2) := by decide +kernel
theorem dL_law_142 : decode cL_law 142 = .ok (.aload_n 1, 1) := by decide +kernel
theorem dL_law_143 : decode cL_law 143 = .ok (.iconst 0, 1) := by decide +kernel
theorem dL_law_144 : decode cL_law 144 = .ok (.invokevirtual 99, 3) := by decide +kernel
theorem dL_law_147 : decode cL_law 147 = .ok (.istore 10, 2) := by decide +kernel
theorem dL_law_149 : decode cL_law 149 = .ok (.iload 6, 2) := by decide +kernel
theorem dL_law_151 : decode cL_law 151 = .ok (.bipush (-4), 2) := by decide +kernel
theorem dL_law_153 : decode cL_law 153 = .ok (.if_icmp .ne 7, 3) := by decide +kernel
theorem dL_law_156 : decode cL_law 156 = .ok (.iconst 1, 1) := by decide +kernel
theorem dL_law_157 : decode cL_law 157 = .ok (.goto 4, 3) := by decide +kernel
theorem dL_law_160 : decode cL_law 160 = .ok (.iconst 0, 1) := by decide +kernel
theorem dL_law_161 : decode cL_law 161 = .ok (.aload_n 1, 1) := by decide +kernel
theorem dL_law_162 : decode cL_law 162 = .ok (.iload 5, 2) := by decide +kernel
theorem dL_law_164 : decode cL_law 164 = .ok (.iconst 4, 1) := by decide +kernel
theorem dL_law_165 : decode cL_law 165 = .ok (.invokevirtual 66, 3) := by decide +kernel
theorem dL_law_168 : decode cL_law 168 = .ok (.iconst 1, 1) := by decide +kernel
theorem dL_law_169 : decode cL_law 169 = .ok (.if_icmp .ne 7, 3) := by decide +kernel
theorem dL_law_172 : decode cL_law 172 = .ok (.iconst 1, 1) := by decide +kernel
theorem dL_law_173 : decode cL_law 173 = .ok (.goto 4, 3) := by decide +kernel
theorem dL_law_176 : decode cL_law 176 = .ok (.iconst 0, 1) := by decide +kernel
theorem dL_law_177 : decode cL_law 177 = .ok (.if_icmp .ne 56, 3) := by decide +kernel
theorem dL_law_180 : decode cL_law 180 = .ok (.iload 10, 2) := by decide +kernel
theorem dL_law_182 : decode cL_law 182 = .ok (.bipush (-4), 2) := by decide +kernel
theorem dL_law_184 : decode cL_law 184 = .ok (.if_icmp .ne 7, 3) := by decide +kernel
theorem dL_law_187 : decode cL_law 187 = .ok (.iconst 1, 1) := by decide +kernel
theorem dL_law_188 : decode cL_law 188 = .ok (.goto 4, 3) := by decide +kernel
theorem dL_law_191 : decode cL_law 191 = .ok (.iconst 0, 1) := by decide +kernel
theorem dL_law_192 : decode cL_law 192 = .ok (.aload_n 1, 1) := by decide +kernel
theorem dL_law_193 : decode cL_law 193 = .ok (.iconst 2, 1) := by decide +kernel
theorem dL_law_194 : decode cL_law 194 = .ok (.invokevirtual 72, 3) := by decide +kernel
theorem dL_law_197 : decode cL_law 197 = .ok (.ifCond .ne 7, 3) := by decide +kernel
theorem dL_law_200 : decode cL_law 200 = .ok (.iconst 1, 1) := by decide +kernel
theorem dL_law_201 : decode cL_law 201 = .ok (.goto 4, 3) := by decide +kernel
theorem dL_law_204 : decode cL_law 204 = .ok (.iconst 0, 1) := by decide +kernel
theorem dL_law_205 : decode cL_law 205 = .ok (.if_icmp .ne 28, 3) := by decide +kernel
theorem dL_law_208 : decode cL_law 208 = .ok (.aload_n 1, 1) := by decide +kernel
theorem dL_law_209 : decode cL_law 209 = .ok (.iload 7, 2) := by decide +kernel
theorem dL_law_211 : decode cL_law 211 = .ok (.iload 8, 2) := by decide +kernel
theorem dL_law_213 : decode cL_law 213 = .ok (.invokevirtual 102, 3) := by decide +kernel
theorem dL_law_216 : decode cL_law 216 = .ok (.bipush (-4), 2) := by decide +kernel
theorem dL_law_218 : decode cL_law 218 = .ok (.if_icmp .ne 15, 3) := by decide +kernel
theorem dL_law_221 : decode cL_law 221 = .ok (.aload_n 1, 1) := by decide +kernel
theorem dL_law_222 : decode cL_law 222 = .ok (.iload 7, 2) := by decide +kernel
theorem dL_law_224 : decode cL_law 224 = .ok (.iconst 4, 1) := by decide +kernel
theorem dL_law_225 : decode cL_law 225 = .ok (.invokevirtual 59, 3) := by decide +kernel
theorem dL_law_228 : decode cL_law 228 = .ok (.iload 8, 2) := by decide +kernel
theorem dL_law_230 : decode cL_law 230 = .ok (.if_icmp .eq 5, 3) := by decide +kernel
theorem dL_law_233 : decode cL_law 233 = .ok (.iconst 0, 1) := by decide +kernel
theorem dL_law_234 : decode cL_law 234 = .ok (.ireturn, 1) := by decide +kernel
theorem dL_law_235 : decode cL_law 235 = .ok (.aload_n 1, 1) := by decide +kernel
theorem dL_law_236 : decode cL_law 236 = .ok (.iconst 1, 1) := by decide +kernel
theorem dL_law_237 : decode cL_law 237 = .ok (.invokevirtual 105, 3) := by decide +kernel
theorem dL_law_240 : decode cL_law 240 = .ok (.iconst 1, 1) := by decide +kernel
theorem dL_law_241 : decode cL_law 241 = .ok (.if_icmp .ne 65, 3) := by decide +kernel
theorem dL_law_244 : decode cL_law 244 = .ok (.aload_n 1, 1) := by decide +kernel
theorem dL_law_245 : decode cL_law 245 = .ok (.iconst 5, 1) := by decide +kernel
theorem dL_law_246 : decode cL_law 246 = .ok (.invokevirtual 72, 3) := by decide +kernel
theorem dL_law_249 : decode cL_law 249 = .ok (.iload 9, 2) := by decide +kernel
theorem dL_law_251 : decode cL_law 251 = .ok (.iconst 1, 1) := by decide +kernel
theorem dL_law_252 : decode cL_law 252 = .ok (.iadd, 1) := by decide +kernel
theorem dL_law_253 : decode cL_law 253 = .ok (.if_icmp .ne 53, 3) := by decide +kernel
theorem dL_law_256 : decode cL_law 256 = .ok (.aload_n 1, 1) := by decide +kernel
theorem dL_law_257 : decode cL_law 257 = .ok (.iload 7, 2) := by decide +kernel
theorem dL_law_259 : decode cL_law 259 = .ok (.iconst 4, 1) := by decide +kernel
theorem dL_law_260 : decode cL_law 260 = .ok (.invokevirtual 59, 3) := by decide +kernel
theorem dL_law_263 : decode cL_law 263 = .ok (.iload 8, 2) := by decide +kernel
theorem dL_law_265 : decode cL_law 265 = .ok (.iconst 1, 1) := by decide +kernel
theorem dL_law_266 : decode cL_law 266 = .ok (.iadd, 1) := by decide +kernel
theorem dL_law_267 : decode cL_law 267 = .ok (.if_icmp .ne 39, 3) := by decide +kernel
theorem dL_law_270 : decode cL_law 270 = .ok (.aload_n 1, 1) := by decide +kernel
theorem dL_law_271 : decode cL_law 271 = .ok (.iload 7, 2) := by decide +kernel
theorem dL_law_273 : decode cL_law 273 = .ok (.iload 8, 2) := by decide +kernel
theorem dL_law_275 : decode cL_law 275 = .ok (.invokevirtual 102, 3) := by decide +kernel
theorem dL_law_278 : decode cL_law 278 = .ok (.aload_n 0, 1) := by decide +kernel
theorem dL_law_279 : decode cL_law 279 = .ok (.iconst 1, 1) := by decide +kernel
theorem dL_law_280 : decode cL_law 280 = .ok (.iconst 2, 1) := by decide +kernel
theorem dL_law_281 : decode cL_law 281 = .ok (.iload 7, 2) := by decide +kernel
theorem dL_law_283 : decode cL_law 283 = .ok (.imul, 1) := by decide +kernel
theorem dL_law_284 : decode cL_law 284 = .ok (.iadd, 1) := by decide +kernel
theorem dL_law_285 : decode cL_law 285 = .ok (.invokestatic 45, 3) := by decide +kernel
theorem dL_law_288 : decode cL_law 288 = .ok (.aload_n 0, 1) := by decide +kernel
theorem dL_law_289 : decode cL_law 289 = .ok (.iconst 2, 1) := by decide +kernel
theorem dL_law_290 : decode cL_law 290 = .ok (.iconst 2, 1) := by decide +kernel
theorem dL_law_291 : decode cL_law 291 = .ok (.iload 7, 2) := by decide +kernel
theorem dL_law_293 : decode cL_law 293 = .ok (.imul, 1) := by decide +kernel
theorem dL_law_294 : decode cL_law 294 = .ok (.iadd, 1) := by decide +kernel
theorem dL_law_295 : decode cL_law 295 = .ok (.invokestatic 45, 3) := by decide +kernel
theorem dL_law_298 : decode cL_law 298 = .ok (.iload 8, 2) := by decide +kernel
theorem dL_law_300 : decode cL_law 300 = .ok (.invokestatic 41, 3) := by decide +kernel
theorem dL_law_303 : decode cL_law 303 = .ok (.if_icmp .eq 5, 3) := by decide +kernel
theorem dL_law_306 : decode cL_law 306 = .ok (.iconst 0, 1) := by decide +kernel
theorem dL_law_307 : decode cL_law 307 = .ok (.ireturn, 1) := by decide +kernel
theorem dL_law_308 : decode cL_law 308 = .ok (.aload_n 1, 1) := by decide +kernel
theorem dL_law_309 : decode cL_law 309 = .ok (.iload 5, 2) := by decide +kernel
theorem dL_law_311 : decode cL_law 311 = .ok (.iconst 4, 1) := by decide +kernel
theorem dL_law_312 : decode cL_law 312 = .ok (.invokevirtual 66, 3) := by decide +kernel
theorem dL_law_315 : decode cL_law 315 = .ok (.iconst 1, 1) := by decide +kernel
theorem dL_law_316 : decode cL_law 316 = .ok (.if_icmp .ne 7, 3) := by decide +kernel
theorem dL_law_319 : decode cL_law 319 = .ok (.iconst 1, 1) := by decide +kernel
theorem dL_law_320 : decode cL_law 320 = .ok (.goto 4, 3) := by decide +kernel
theorem dL_law_323 : decode cL_law 323 = .ok (.iconst 0, 1) := by decide +kernel
theorem dL_law_324 : decode cL_law 324 = .ok (.istore 11, 2) := by decide +kernel
theorem dL_law_326 : decode cL_law 326 = .ok (.iload 6, 2) := by decide +kernel
theorem dL_law_328 : decode cL_law 328 = .ok (.bipush (-4), 2) := by decide +kernel
theorem dL_law_330 : decode cL_law 330 = .ok (.if_icmp .eq 44, 3) := by decide +kernel
theorem dL_law_333 : decode cL_law 333 = .ok (.iload 6, 2) := by decide +kernel
theorem dL_law_335 : decode cL_law 335 = .ok (.iconst 1, 1) := by decide +kernel
theorem dL_law_336 : decode cL_law 336 = .ok (.if_icmp .ne 7, 3) := by decide +kernel
theorem dL_law_339 : decode cL_law 339 = .ok (.iconst 1, 1) := by decide +kernel
theorem dL_law_340 : decode cL_law 340 = .ok (.goto 4, 3) := by decide +kernel
theorem dL_law_343 : decode cL_law 343 = .ok (.iconst 0, 1) := by decide +kernel
theorem dL_law_344 : decode cL_law 344 = .ok (.iload 11, 2) := by decide +kernel
theorem dL_law_346 : decode cL_law 346 = .ok (.if_icmp .ne 32, 3) := by decide +kernel
theorem dL_law_349 : decode cL_law 349 = .ok (.iload 6, 2) := by decide +kernel
theorem dL_law_351 : decode cL_law 351 = .ok (.iconst 1, 1) := by decide +kernel
theorem dL_law_352 : decode cL_law 352 = .ok (.if_icmp .lt 22, 3) := by decide +kernel
theorem dL_law_355 : decode cL_law 355 = .ok (.iload 6, 2) := by decide +kernel
theorem dL_law_357 : decode cL_law 357 = .ok (.iconst 1, 1) := by decide +kernel
theorem dL_law_358 : decode cL_law 358 = .ok (.if_icmp .eq 16, 3) := by decide +kernel
theorem dL_law_361 : decode cL_law 361 = .ok (.aload_n 1, 1) := by decide +kernel
theorem dL_law_362 : decode cL_law 362 = .ok (.iload 5, 2) := by decide +kernel
theorem dL_law_364 : decode cL_law 364 = .ok (.invokevirtual 93, 3) := by decide +kernel
theorem dL_law_367 : decode cL_law 367 = .ok (.iload 6, 2) := by decide +kernel
theorem dL_law_369 : decode cL_law 369 = .ok (.iconst 1, 1) := by decide +kernel
theorem dL_law_370 : decode cL_law 370 = .ok (.isub, 1) := by decide +kernel
theorem dL_law_371 : decode cL_law 371 = .ok (.if_icmp .ne 7, 3) := by decide +kernel
theorem dL_law_374 : decode cL_law 374 = .ok (.iconst 1, 1) := by decide +kernel
theorem dL_law_375 : decode cL_law 375 = .ok (.goto 4, 3) := by decide +kernel
theorem dL_law_378 : decode cL_law 378 = .ok (.iconst 0, 1) := by decide +kernel
theorem dL_law_379 : decode cL_law 379 = .ok (.istore 12, 2) := by decide +kernel
theorem dL_law_381 : decode cL_law 381 = .ok (.iload 12, 2) := by decide +kernel
theorem dL_law_383 : decode cL_law 383 = .ok (.ifCond .eq 12, 3) := by decide +kernel
theorem dL_law_386 : decode cL_law 386 = .ok (.aload_n 1, 1) := by decide +kernel
theorem dL_law_387 : decode cL_law 387 = .ok (.aload_n 0, 1) := by decide +kernel
theorem dL_law_388 : decode cL_law 388 = .ok (.aload_n 2, 1) := by decide +kernel
theorem dL_law_389 : decode cL_law 389 = .ok (.invokestatic 89, 3) := by decide +kernel
theorem dL_law_392 : decode cL_law 392 = .ok (.ifCond .ne 5, 3) := by decide +kernel
theorem dL_law_395 : decode cL_law 395 = .ok (.iconst 0, 1) := by decide +kernel
theorem dL_law_396 : decode cL_law 396 = .ok (.ireturn, 1) := by decide +kernel
theorem dL_law_397 : decode cL_law 397 = .ok (.iinc 4 1, 3) := by decide +kernel
theorem dL_law_400 : decode cL_law 400 = .ok (.goto (-322), 3) := by decide +kernel
theorem dL_law_403 : decode cL_law 403 = .ok (.aload_n 1, 1) := by decide +kernel
theorem dL_law_404 : decode cL_law 404 = .ok (.iconst 2, 1) := by decide +kernel
theorem dL_law_405 : decode cL_law 405 = .ok (.invokevirtual 72, 3) := by decide +kernel
theorem dL_law_408 : decode cL_law 408 = .ok (.ifCond .ne 28, 3) := by decide +kernel
theorem dL_law_411 : decode cL_law 411 = .ok (.aload_n 1, 1) := by decide +kernel
theorem dL_law_412 : decode cL_law 412 = .ok (.invokevirtual 108, 3) := by decide +kernel
theorem dL_law_415 : decode cL_law 415 = .ok (.bipush (-4), 2) := by decide +kernel
theorem dL_law_417 : decode cL_law 417 = .ok (.if_icmp .ne 17, 3) := by decide +kernel
theorem dL_law_420 : decode cL_law 420 = .ok (.aload_n 1, 1) := by decide +kernel
theorem dL_law_421 : decode cL_law 421 = .ok (.iconst 1, 1) := by decide +kernel
theorem dL_law_422 : decode cL_law 422 = .ok (.invokevirtual 99, 3) := by decide +kernel
theorem dL_law_425 : decode cL_law 425 = .ok (.bipush (-4), 2) := by decide +kernel
theorem dL_law_427 : decode cL_law 427 = .ok (.if_icmp .ne 7, 3) := by decide +kernel
theorem dL_law_430 : decode cL_law 430 = .ok (.iconst 1, 1) := by decide +kernel
theorem dL_law_431 : decode cL_law 431 = .ok (.goto 4, 3) := by decide +kernel
theorem dL_law_434 : decode cL_law 434 = .ok (.iconst 0, 1) := by decide +kernel
theorem dL_law_435 : decode cL_law 435 = .ok (.ireturn, 1) := by decide +kernel
theorem dL_law_436 : decode cL_law 436 = .ok (.aload_n 1, 1) := by decide +kernel
theorem dL_law_437 : decode cL_law 437 = .ok (.iconst 0, 1) := by decide +kernel
theorem dL_law_438 : decode cL_law 438 = .ok (.invokevirtual 99, 3) := by decide +kernel
theorem dL_law_441 : decode cL_law 441 = .ok (.istore 5, 2) := by decide +kernel
theorem dL_law_443 : decode cL_law 443 = .ok (.aload_n 1, 1) := by decide +kernel
theorem dL_law_444 : decode cL_law 444 = .ok (.iconst 1, 1) := by decide +kernel
theorem dL_law_445 : decode cL_law 445 = .ok (.invokevirtual 99, 3) := by decide +kernel
theorem dL_law_448 : decode cL_law 448 = .ok (.istore 6, 2) := by decide +kernel
theorem dL_law_450 : decode cL_law 450 = .ok (.aload_n 1, 1) := by decide +kernel
theorem dL_law_451 : decode cL_law 451 = .ok (.iconst 4, 1) := by decide +kernel
theorem dL_law_452 : decode cL_law 452 = .ok (.invokevirtual 72, 3) := by decide +kernel
theorem dL_law_455 : decode cL_law 455 = .ok (.aload_n 1, 1) := by decide +kernel
theorem dL_law_456 : decode cL_law 456 = .ok (.iconst 5, 1) := by decide +kernel
theorem dL_law_457 : decode cL_law 457 = .ok (.invokevirtual 72, 3) := by decide +kernel
theorem dL_law_460 : decode cL_law 460 = .ok (.isub, 1) := by decide +kernel
theorem dL_law_461 : decode cL_law 461 = .ok (.istore 7, 2) := by decide +kernel
theorem dL_law_463 : decode cL_law 463 = .ok (.iload 5, 2) := by decide +kernel
theorem dL_law_465 : decode cL_law 465 = .ok (.bipush (-5), 2) := by decide +kernel
theorem dL_law_467 : decode cL_law 467 = .ok (.if_icmp .eq 24, 3) := by decide +kernel
theorem dL_law_470 : decode cL_law 470 = .ok (.iload 5, 2) := by decide +kernel
theorem dL_law_472 : decode cL_law 472 = .ok (.aload_n 1, 1) := by decide +kernel
theorem dL_law_473 : decode cL_law 473 = .ok (.iconst 3, 1) := by decide +kernel
theorem dL_law_474 : decode cL_law 474 = .ok (.invokevirtual 72, 3) := by decide +kernel
theorem dL_law_477 : decode cL_law 477 = .ok (.if_icmp .eq 14, 3) := by decide +kernel
theorem dL_law_480 : decode cL_law 480 = .ok (.aload_n 1, 1) := by decide +kernel
theorem dL_law_481 : decode cL_law 481 = .ok (.iload 5, 2) := by decide +kernel
theorem dL_law_483 : decode cL_law 483 = .ok (.invokevirtual 69, 3) := by decide +kernel
theorem dL_law_486 : decode cL_law 486 = .ok (.ifCond .ge 5, 3) := by decide +kernel
theorem dL_law_489 : decode cL_law 489 = .ok (.iconst 0, 1) := by decide +kernel
theorem dL_law_490 : decode cL_law 490 = .ok (.ireturn, 1) := by decide +kernel
theorem dL_law_491 : decode cL_law 491 = .ok (.aload_n 1, 1) := by decide +kernel
theorem dL_law_492 : decode cL_law 492 = .ok (.invokevirtual 108, 3) := by decide +kernel
theorem dL_law_495 : decode cL_law 495 = .ok (.istore 8, 2) := by decide +kernel
theorem dL_law_497 : decode cL_law 497 = .ok (.iload 7, 2) := by decide +kernel
theorem dL_law_499 : decode cL_law 499 = .ok (.ifCond .ne 18, 3) := by decide +kernel
theorem dL_law_502 : decode cL_law 502 = .ok (.iload 8, 2) := by decide +kernel
theorem dL_law_504 : decode cL_law 504 = .ok (.bipush (-5), 2) := by decide +kernel
theorem dL_law_506 : decode cL_law 506 = .ok (.if_icmp .ne 7, 3) := by decide +kernel
theorem dL_law_509 : decode cL_law 509 = .ok (.iconst 1, 1) := by decide +kernel
theorem dL_law_510 : decode cL_law 510 = .ok (.goto 49, 3) := by decide +kernel
theorem dL_law_513 : decode cL_law 513 = .ok (.iconst 0, 1) := by decide +kernel
theorem dL_law_514 : decode cL_law 514 = .ok (.goto 45, 3) := by decide +kernel
theorem dL_law_517 : decode cL_law 517 = .ok (.iload 5, 2) := by decide +kernel
theorem dL_law_519 : decode cL_law 519 = .ok (.bipush (-5), 2) := by decide +kernel
theorem dL_law_521 : decode cL_law 521 = .ok (.if_icmp .ne 18, 3) := by decide +kernel
theorem dL_law_524 : decode cL_law 524 = .ok (.iload 8, 2) := by decide +kernel
theorem dL_law_526 : decode cL_law 526 = .ok (.iload 7, 2) := by decide +kernel
theorem dL_law_528 : decode cL_law 528 = .ok (.if_icmp .ne 7, 3) := by decide +kernel
theorem dL_law_531 : decode cL_law 531 = .ok (.iconst 1, 1) := by decide +kernel
theorem dL_law_532 : decode cL_law 532 = .ok (.goto 27, 3) := by decide +kernel
theorem dL_law_535 : decode cL_law 535 = .ok (.iconst 0, 1) := by decide +kernel
theorem dL_law_536 : decode cL_law 536 = .ok (.goto 23, 3) := by decide +kernel
theorem dL_law_539 : decode cL_law 539 = .ok (.iload 8, 2) := by decide +kernel
theorem dL_law_541 : decode cL_law 541 = .ok (.iload 6, 2) := by decide +kernel
theorem dL_law_543 : decode cL_law 543 = .ok (.if_icmp .ne 15, 3) := by decide +kernel
theorem dL_law_546 : decode cL_law 546 = .ok (.aload_n 1, 1) := by decide +kernel
theorem dL_law_547 : decode cL_law 547 = .ok (.iconst 2, 1) := by decide +kernel
theorem dL_law_548 : decode cL_law 548 = .ok (.invokevirtual 72, 3) := by decide +kernel
theorem dL_law_551 : decode cL_law 551 = .ok (.ifCond .ne 7, 3) := by decide +kernel
theorem dL_law_554 : decode cL_law 554 = .ok (.iconst 1, 1) := by decide +kernel
theorem dL_law_555 : decode cL_law 555 = .ok (.goto 4, 3) := by decide +kernel
theorem dL_law_558 : decode cL_law 558 = .ok (.iconst 0, 1) := by decide +kernel
theorem dL_law_559 : decode cL_law 559 = .ok (.istore 9, 2) := by decide +kernel
theorem dL_law_561 : decode cL_law 561 = .ok (.iload 9, 2) := by decide +kernel
theorem dL_law_563 : decode cL_law 563 = .ok (.ifCond .eq 16, 3) := by decide +kernel
theorem dL_law_566 : decode cL_law 566 = .ok (.aload_n 1, 1) := by decide +kernel
theorem dL_law_567 : decode cL_law 567 = .ok (.aload_n 0, 1) := by decide +kernel
theorem dL_law_568 : decode cL_law 568 = .ok (.aload_n 2, 1) := by decide +kernel
theorem dL_law_569 : decode cL_law 569 = .ok (.invokestatic 89, 3) := by decide +kernel
theorem dL_law_572 : decode cL_law 572 = .ok (.ifCond .eq 7, 3) := by decide +kernel
theorem dL_law_575 : decode cL_law 575 = .ok (.iconst 1, 1) := by decide +kernel
theorem dL_law_576 : decode cL_law 576 = .ok (.goto 4, 3) := by decide +kernel
theorem dL_law_579 : decode cL_law 579 = .ok (.iconst 0, 1) := by decide +kernel
theorem dL_law_580 : decode cL_law 580 = .ok (.ireturn, 1) := by decide +kernel
end
section
/-! THE TABLES' WORDS: TB, those that a call may hand on; k_n: the word n of tables_1 is among them -/
def TB : List Cond := lw_tbl.filter goodWord
theorem TB_good : ∀ w ∈ TB, goodWord w = true := fun _ h => (List.mem_filter.mp h).2
theorem TB_lw : ∀ w ∈ TB, w ∈ lw_tbl := fun _ h => (List.mem_filter.mp h).1
theorem lw_of {w : Cond} (h : w ∈ tables_1) : w ∈ lw_tbl := List.mem_append_right _ h
theorem tb_of {w : Cond} (h : w ∈ tables_1) (hg : goodWord w = true) : w ∈ TB := List.mem_filter.mpr ⟨lw_of h, hg⟩
theorem tb_sel {w : Cond} (h : w ∈ k2_sels lw_privs) (hg : goodWord w = true) : w ∈ TB := List.mem_filter.mpr ⟨List.mem_append_left _ h, hg⟩

theorem k_0 : Cond.initialized RL ∈ TB := tb_of (List.mem_of_getElem? (i := 0) (by decide +kernel)) (by decide +kernel)
theorem k_1 : Cond.initialized RX5 ∈ TB := tb_of (List.mem_of_getElem? (i := 1) (by decide +kernel)) (by decide +kernel)
theorem k_2 : Cond.initialized RX1 ∈ TB := tb_of (List.mem_of_getElem? (i := 2) (by decide +kernel)) (by decide +kernel)
theorem k_3 : Cond.initialized RX4 ∈ TB := tb_of (List.mem_of_getElem? (i := 3) (by decide +kernel)) (by decide +kernel)
theorem k_4 : Cond.initialized RX0 ∈ TB := tb_of (List.mem_of_getElem? (i := 4) (by decide +kernel)) (by decide +kernel)
theorem k_5 : Cond.initialized RX3 ∈ TB := tb_of (List.mem_of_getElem? (i := 5) (by decide +kernel)) (by decide +kernel)
theorem k_6 : Cond.initialized RX2 ∈ TB := tb_of (List.mem_of_getElem? (i := 6) (by decide +kernel)) (by decide +kernel)
theorem k_7 : Cond.initialized "java/lang/System" ∈ TB := tb_of (List.mem_of_getElem? (i := 7) (by decide +kernel)) (by decide +kernel)
theorem k_8 : Cond.initialized "java/lang/Math" ∈ TB := tb_of (List.mem_of_getElem? (i := 8) (by decide +kernel)) (by decide +kernel)
theorem k_9 : Cond.classLink RL 24 RX5 ∈ TB := tb_of (List.mem_of_getElem? (i := 9) (by decide +kernel)) (by decide +kernel)
theorem k_10 : Cond.instantiable RX5 6 ∈ TB := tb_of (List.mem_of_getElem? (i := 10) (by decide +kernel)) (by decide +kernel)
theorem k_11 : Cond.methodLink RL 83 yX5_init ∈ TB := tb_of (List.mem_of_getElem? (i := 11) (by decide +kernel)) (by decide +kernel)
theorem k_12 : Cond.instanceMethod yX5_init ∈ TB := tb_of (List.mem_of_getElem? (i := 12) (by decide +kernel)) (by decide +kernel)
theorem k_13 : Cond.code yX5_init cX5_init 1 none ∈ TB := tb_of (List.mem_of_getElem? (i := 13) (by decide +kernel)) (by decide +kernel)
theorem k_14 : Cond.methodLink RX5 3 objectInit ∈ TB := tb_of (List.mem_of_getElem? (i := 14) (by decide +kernel)) (by decide +kernel)
theorem k_15 : Cond.instanceMethod objectInit ∈ TB := tb_of (List.mem_of_getElem? (i := 15) (by decide +kernel)) (by decide +kernel)
theorem k_16 : Cond.code objectInit ⟨#[0xb1]⟩ 1 none ∈ TB := tb_of (List.mem_of_getElem? (i := 16) (by decide +kernel)) (by decide +kernel)
theorem k_17 : Cond.classLink RX5 9 RX1 ∈ TB := tb_of (List.mem_of_getElem? (i := 17) (by decide +kernel)) (by decide +kernel)
theorem k_18 : Cond.instantiable RX1 8 ∈ TB := tb_of (List.mem_of_getElem? (i := 18) (by decide +kernel)) (by decide +kernel)
theorem k_19 : Cond.methodLinkNest RX5 11 yX1_init RX5 ∈ lw_tbl := lw_of (List.mem_of_getElem? (i := 19) (by decide +kernel))
theorem k_20 : Cond.instanceMethod yX1_init ∈ TB := tb_of (List.mem_of_getElem? (i := 20) (by decide +kernel)) (by decide +kernel)
theorem k_21 : Cond.code yX1_init cX1_init 1 none ∈ TB := tb_of (List.mem_of_getElem? (i := 21) (by decide +kernel)) (by decide +kernel)
theorem k_22 : Cond.methodLink RX1 3 objectInit ∈ TB := tb_of (List.mem_of_getElem? (i := 22) (by decide +kernel)) (by decide +kernel)
theorem k_23 : Cond.fieldLink RX1 9 RX1 "characters" "[C" ∈ TB := tb_of (List.mem_of_getElem? (i := 23) (by decide +kernel)) (by decide +kernel)
theorem k_24 : Cond.fieldLink RX1 15 RX1 "values" "[I" ∈ TB := tb_of (List.mem_of_getElem? (i := 24) (by decide +kernel)) (by decide +kernel)
theorem k_25 : Cond.fieldLink RX0 46 RX1 "values" "[I" ∈ TB := tb_of (List.mem_of_getElem? (i := 25) (by decide +kernel)) (by decide +kernel)
theorem k_26 : Cond.fieldLink RX1 19 RX1 "length" "I" ∈ TB := tb_of (List.mem_of_getElem? (i := 26) (by decide +kernel)) (by decide +kernel)
theorem k_27 : Cond.fieldLink RX5 186 RX1 "length" "I" ∈ TB := tb_of (List.mem_of_getElem? (i := 27) (by decide +kernel)) (by decide +kernel)
theorem k_28 : Cond.fieldLink RX5 44 RX1 "at" "I" ∈ TB := tb_of (List.mem_of_getElem? (i := 28) (by decide +kernel)) (by decide +kernel)
theorem k_29 : Cond.fieldLink RX1 23 RX1 "at" "I" ∈ TB := tb_of (List.mem_of_getElem? (i := 29) (by decide +kernel)) (by decide +kernel)
theorem k_30 : Cond.fieldLink RX1 30 RX1 "layer" "I" ∈ TB := tb_of (List.mem_of_getElem? (i := 30) (by decide +kernel)) (by decide +kernel)
theorem k_31 : Cond.fieldLink RX0 49 RX1 "layer" "I" ∈ TB := tb_of (List.mem_of_getElem? (i := 31) (by decide +kernel)) (by decide +kernel)
theorem k_32 : Cond.fieldLink RX0 50 RX1 "bottom" "I" ∈ TB := tb_of (List.mem_of_getElem? (i := 32) (by decide +kernel)) (by decide +kernel)
theorem k_33 : Cond.fieldLink RX1 41 RX1 "bottom" "I" ∈ TB := tb_of (List.mem_of_getElem? (i := 33) (by decide +kernel)) (by decide +kernel)
theorem k_34 : Cond.fieldLink RX0 51 RX1 "top" "I" ∈ TB := tb_of (List.mem_of_getElem? (i := 34) (by decide +kernel)) (by decide +kernel)
theorem k_35 : Cond.fieldLink RX1 44 RX1 "top" "I" ∈ TB := tb_of (List.mem_of_getElem? (i := 35) (by decide +kernel)) (by decide +kernel)
theorem k_36 : Cond.fieldLink RX0 52 RX1 "rows" "I" ∈ TB := tb_of (List.mem_of_getElem? (i := 36) (by decide +kernel)) (by decide +kernel)
theorem k_37 : Cond.fieldLink RX1 51 RX1 "rows" "I" ∈ TB := tb_of (List.mem_of_getElem? (i := 37) (by decide +kernel)) (by decide +kernel)
theorem k_38 : Cond.laysFinal RX1 RX1 "characters" "[C" ∈ TB := tb_of (List.mem_of_getElem? (i := 38) (by decide +kernel)) (by decide +kernel)
theorem k_40 : Cond.laysFinal RX1 RX1 "values" "[I" ∈ TB := tb_of (List.mem_of_getElem? (i := 40) (by decide +kernel)) (by decide +kernel)
theorem k_42 : Cond.lays RX1 RX1 "length" "I" ∈ TB := tb_of (List.mem_of_getElem? (i := 42) (by decide +kernel)) (by decide +kernel)
theorem k_44 : Cond.lays RX1 RX1 "at" "I" ∈ TB := tb_of (List.mem_of_getElem? (i := 44) (by decide +kernel)) (by decide +kernel)
theorem k_46 : Cond.lays RX1 RX1 "layer" "I" ∈ TB := tb_of (List.mem_of_getElem? (i := 46) (by decide +kernel)) (by decide +kernel)
theorem k_48 : Cond.lays RX1 RX1 "bottom" "I" ∈ TB := tb_of (List.mem_of_getElem? (i := 48) (by decide +kernel)) (by decide +kernel)
theorem k_50 : Cond.lays RX1 RX1 "top" "I" ∈ TB := tb_of (List.mem_of_getElem? (i := 50) (by decide +kernel)) (by decide +kernel)
theorem k_52 : Cond.lays RX1 RX1 "rows" "I" ∈ TB := tb_of (List.mem_of_getElem? (i := 52) (by decide +kernel)) (by decide +kernel)
theorem k_55 : Cond.arrayClass .char ∈ TB := tb_of (List.mem_of_getElem? (i := 55) (by decide +kernel)) (by decide +kernel)
theorem k_56 : Cond.arrayClass .int ∈ TB := tb_of (List.mem_of_getElem? (i := 56) (by decide +kernel)) (by decide +kernel)
theorem k_57 : Cond.classLink RX5 16 RX4 ∈ TB := tb_of (List.mem_of_getElem? (i := 57) (by decide +kernel)) (by decide +kernel)
theorem k_58 : Cond.instantiable RX4 6 ∈ TB := tb_of (List.mem_of_getElem? (i := 58) (by decide +kernel)) (by decide +kernel)
theorem k_59 : Cond.methodLink RX5 18 yX4_init ∈ TB := tb_of (List.mem_of_getElem? (i := 59) (by decide +kernel)) (by decide +kernel)
theorem k_60 : Cond.instanceMethod yX4_init ∈ TB := tb_of (List.mem_of_getElem? (i := 60) (by decide +kernel)) (by decide +kernel)
theorem k_61 : Cond.code yX4_init cX4_init 2 none ∈ TB := tb_of (List.mem_of_getElem? (i := 61) (by decide +kernel)) (by decide +kernel)
theorem k_62 : Cond.methodLink RX4 3 objectInit ∈ TB := tb_of (List.mem_of_getElem? (i := 62) (by decide +kernel)) (by decide +kernel)
theorem k_63 : Cond.classLink RX4 9 RX0 ∈ TB := tb_of (List.mem_of_getElem? (i := 63) (by decide +kernel)) (by decide +kernel)
theorem k_65 : Cond.classLink RX4 17 RX3 ∈ TB := tb_of (List.mem_of_getElem? (i := 65) (by decide +kernel)) (by decide +kernel)
theorem k_67 : Cond.instantiable RX0 9 ∈ TB := tb_of (List.mem_of_getElem? (i := 67) (by decide +kernel)) (by decide +kernel)
theorem k_68 : Cond.methodLinkNest RX4 23 yX0_init RX5 ∈ lw_tbl := lw_of (List.mem_of_getElem? (i := 68) (by decide +kernel))
theorem k_69 : Cond.instanceMethod yX0_init ∈ TB := tb_of (List.mem_of_getElem? (i := 69) (by decide +kernel)) (by decide +kernel)
theorem k_70 : Cond.code yX0_init cX0_init 1 none ∈ TB := tb_of (List.mem_of_getElem? (i := 70) (by decide +kernel)) (by decide +kernel)
theorem k_71 : Cond.methodLink RX0 3 objectInit ∈ TB := tb_of (List.mem_of_getElem? (i := 71) (by decide +kernel)) (by decide +kernel)
theorem k_72 : Cond.fieldLink RX0 9 RX0 "values" "[I" ∈ TB := tb_of (List.mem_of_getElem? (i := 72) (by decide +kernel)) (by decide +kernel)
theorem k_73 : Cond.fieldLink RX5 89 RX0 "values" "[I" ∈ TB := tb_of (List.mem_of_getElem? (i := 73) (by decide +kernel)) (by decide +kernel)
theorem k_74 : Cond.fieldLink RX0 21 RX0 "layer" "I" ∈ TB := tb_of (List.mem_of_getElem? (i := 74) (by decide +kernel)) (by decide +kernel)
theorem k_75 : Cond.fieldLink RX4 83 RX0 "layer" "I" ∈ TB := tb_of (List.mem_of_getElem? (i := 75) (by decide +kernel)) (by decide +kernel)
theorem k_76 : Cond.fieldLink RX5 201 RX0 "layer" "I" ∈ TB := tb_of (List.mem_of_getElem? (i := 76) (by decide +kernel)) (by decide +kernel)
theorem k_77 : Cond.fieldLink RX0 25 RX0 "bottom" "I" ∈ TB := tb_of (List.mem_of_getElem? (i := 77) (by decide +kernel)) (by decide +kernel)
theorem k_78 : Cond.fieldLink RX3 37 RX0 "bottom" "I" ∈ TB := tb_of (List.mem_of_getElem? (i := 78) (by decide +kernel)) (by decide +kernel)
theorem k_79 : Cond.fieldLink RX4 126 RX0 "bottom" "I" ∈ TB := tb_of (List.mem_of_getElem? (i := 79) (by decide +kernel)) (by decide +kernel)
theorem k_80 : Cond.fieldLink RX5 110 RX0 "bottom" "I" ∈ TB := tb_of (List.mem_of_getElem? (i := 80) (by decide +kernel)) (by decide +kernel)
theorem k_81 : Cond.fieldLink RX0 28 RX0 "top" "I" ∈ TB := tb_of (List.mem_of_getElem? (i := 81) (by decide +kernel)) (by decide +kernel)
theorem k_82 : Cond.fieldLink RX3 42 RX0 "top" "I" ∈ TB := tb_of (List.mem_of_getElem? (i := 82) (by decide +kernel)) (by decide +kernel)
theorem k_83 : Cond.fieldLink RX4 129 RX0 "top" "I" ∈ TB := tb_of (List.mem_of_getElem? (i := 83) (by decide +kernel)) (by decide +kernel)
theorem k_84 : Cond.fieldLink RX5 107 RX0 "top" "I" ∈ TB := tb_of (List.mem_of_getElem? (i := 84) (by decide +kernel)) (by decide +kernel)
theorem k_85 : Cond.fieldLink RX0 31 RX0 "rows" "I" ∈ TB := tb_of (List.mem_of_getElem? (i := 85) (by decide +kernel)) (by decide +kernel)
theorem k_86 : Cond.fieldLink RX4 53 RX0 "rows" "I" ∈ TB := tb_of (List.mem_of_getElem? (i := 86) (by decide +kernel)) (by decide +kernel)
theorem k_87 : Cond.fieldLink RX5 78 RX0 "rows" "I" ∈ TB := tb_of (List.mem_of_getElem? (i := 87) (by decide +kernel)) (by decide +kernel)
theorem k_88 : Cond.fieldLink RX0 34 RX0 "read" "I" ∈ TB := tb_of (List.mem_of_getElem? (i := 88) (by decide +kernel)) (by decide +kernel)
theorem k_89 : Cond.fieldLink RX4 90 RX0 "read" "I" ∈ TB := tb_of (List.mem_of_getElem? (i := 89) (by decide +kernel)) (by decide +kernel)
theorem k_90 : Cond.fieldLink RX5 97 RX0 "read" "I" ∈ TB := tb_of (List.mem_of_getElem? (i := 90) (by decide +kernel)) (by decide +kernel)
theorem k_91 : Cond.fieldLink RX0 37 RX0 "readSum" "I" ∈ TB := tb_of (List.mem_of_getElem? (i := 91) (by decide +kernel)) (by decide +kernel)
theorem k_92 : Cond.fieldLink RX4 132 RX0 "readSum" "I" ∈ TB := tb_of (List.mem_of_getElem? (i := 92) (by decide +kernel)) (by decide +kernel)
theorem k_93 : Cond.fieldLink RX5 208 RX0 "readSum" "I" ∈ TB := tb_of (List.mem_of_getElem? (i := 93) (by decide +kernel)) (by decide +kernel)
theorem k_94 : Cond.fieldLink RX0 40 RX0 "readLeast" "I" ∈ TB := tb_of (List.mem_of_getElem? (i := 94) (by decide +kernel)) (by decide +kernel)
theorem k_95 : Cond.fieldLink RX0 43 RX0 "readGreatest" "I" ∈ TB := tb_of (List.mem_of_getElem? (i := 95) (by decide +kernel)) (by decide +kernel)
theorem k_96 : Cond.laysFinal RX0 RX0 "values" "[I" ∈ TB := tb_of (List.mem_of_getElem? (i := 96) (by decide +kernel)) (by decide +kernel)
theorem k_98 : Cond.lays RX0 RX0 "layer" "I" ∈ TB := tb_of (List.mem_of_getElem? (i := 98) (by decide +kernel)) (by decide +kernel)
theorem k_100 : Cond.lays RX0 RX0 "bottom" "I" ∈ TB := tb_of (List.mem_of_getElem? (i := 100) (by decide +kernel)) (by decide +kernel)
theorem k_102 : Cond.lays RX0 RX0 "top" "I" ∈ TB := tb_of (List.mem_of_getElem? (i := 102) (by decide +kernel)) (by decide +kernel)
theorem k_104 : Cond.lays RX0 RX0 "rows" "I" ∈ TB := tb_of (List.mem_of_getElem? (i := 104) (by decide +kernel)) (by decide +kernel)
theorem k_106 : Cond.lays RX0 RX0 "read" "I" ∈ TB := tb_of (List.mem_of_getElem? (i := 106) (by decide +kernel)) (by decide +kernel)
theorem k_108 : Cond.lays RX0 RX0 "readSum" "I" ∈ TB := tb_of (List.mem_of_getElem? (i := 108) (by decide +kernel)) (by decide +kernel)
theorem k_110 : Cond.lays RX0 RX0 "readLeast" "I" ∈ TB := tb_of (List.mem_of_getElem? (i := 110) (by decide +kernel)) (by decide +kernel)
theorem k_112 : Cond.lays RX0 RX0 "readGreatest" "I" ∈ TB := tb_of (List.mem_of_getElem? (i := 112) (by decide +kernel)) (by decide +kernel)
theorem k_115 : Cond.instantiable RX3 8 ∈ TB := tb_of (List.mem_of_getElem? (i := 115) (by decide +kernel)) (by decide +kernel)
theorem k_116 : Cond.methodLinkNest RX4 24 yX3_init RX5 ∈ lw_tbl := lw_of (List.mem_of_getElem? (i := 116) (by decide +kernel))
theorem k_117 : Cond.instanceMethod yX3_init ∈ TB := tb_of (List.mem_of_getElem? (i := 117) (by decide +kernel)) (by decide +kernel)
theorem k_118 : Cond.code yX3_init cX3_init 1 none ∈ TB := tb_of (List.mem_of_getElem? (i := 118) (by decide +kernel)) (by decide +kernel)
theorem k_119 : Cond.methodLink RX3 3 objectInit ∈ TB := tb_of (List.mem_of_getElem? (i := 119) (by decide +kernel)) (by decide +kernel)
theorem k_120 : Cond.fieldLink RX3 9 RX3 "kind" "I" ∈ TB := tb_of (List.mem_of_getElem? (i := 120) (by decide +kernel)) (by decide +kernel)
theorem k_121 : Cond.fieldLink RX4 60 RX3 "kind" "I" ∈ TB := tb_of (List.mem_of_getElem? (i := 121) (by decide +kernel)) (by decide +kernel)
theorem k_122 : Cond.fieldLink RX5 211 RX3 "kind" "I" ∈ TB := tb_of (List.mem_of_getElem? (i := 122) (by decide +kernel)) (by decide +kernel)
theorem k_123 : Cond.fieldLink RX3 15 RX3 "layers" "I" ∈ TB := tb_of (List.mem_of_getElem? (i := 123) (by decide +kernel)) (by decide +kernel)
theorem k_124 : Cond.fieldLink RX4 63 RX3 "layers" "I" ∈ TB := tb_of (List.mem_of_getElem? (i := 124) (by decide +kernel)) (by decide +kernel)
theorem k_125 : Cond.fieldLink RX5 147 RX3 "layers" "I" ∈ TB := tb_of (List.mem_of_getElem? (i := 125) (by decide +kernel)) (by decide +kernel)
theorem k_126 : Cond.fieldLink RX3 18 RX3 "limit" "I" ∈ TB := tb_of (List.mem_of_getElem? (i := 126) (by decide +kernel)) (by decide +kernel)
theorem k_127 : Cond.fieldLink RX4 66 RX3 "limit" "I" ∈ TB := tb_of (List.mem_of_getElem? (i := 127) (by decide +kernel)) (by decide +kernel)
theorem k_128 : Cond.fieldLink RX5 214 RX3 "limit" "I" ∈ TB := tb_of (List.mem_of_getElem? (i := 128) (by decide +kernel)) (by decide +kernel)
theorem k_129 : Cond.fieldLink RX3 21 RX3 "tolerance" "I" ∈ TB := tb_of (List.mem_of_getElem? (i := 129) (by decide +kernel)) (by decide +kernel)
theorem k_130 : Cond.fieldLink RX4 69 RX3 "tolerance" "I" ∈ TB := tb_of (List.mem_of_getElem? (i := 130) (by decide +kernel)) (by decide +kernel)
theorem k_131 : Cond.fieldLink RX5 144 RX3 "tolerance" "I" ∈ TB := tb_of (List.mem_of_getElem? (i := 131) (by decide +kernel)) (by decide +kernel)
theorem k_132 : Cond.fieldLink RX3 24 RX3 "stopped" "Z" ∈ TB := tb_of (List.mem_of_getElem? (i := 132) (by decide +kernel)) (by decide +kernel)
theorem k_133 : Cond.fieldLink RX4 72 RX3 "stopped" "Z" ∈ TB := tb_of (List.mem_of_getElem? (i := 133) (by decide +kernel)) (by decide +kernel)
theorem k_134 : Cond.fieldLink RX5 139 RX3 "stopped" "Z" ∈ TB := tb_of (List.mem_of_getElem? (i := 134) (by decide +kernel)) (by decide +kernel)
theorem k_135 : Cond.fieldLink RX3 28 RX3 "lower" "I" ∈ TB := tb_of (List.mem_of_getElem? (i := 135) (by decide +kernel)) (by decide +kernel)
theorem k_136 : Cond.fieldLink RX4 100 RX3 "lower" "I" ∈ TB := tb_of (List.mem_of_getElem? (i := 136) (by decide +kernel)) (by decide +kernel)
theorem k_137 : Cond.fieldLink RX5 217 RX3 "lower" "I" ∈ TB := tb_of (List.mem_of_getElem? (i := 137) (by decide +kernel)) (by decide +kernel)
theorem k_138 : Cond.fieldLink RX3 31 RX3 "upper" "I" ∈ TB := tb_of (List.mem_of_getElem? (i := 138) (by decide +kernel)) (by decide +kernel)
theorem k_139 : Cond.fieldLink RX4 103 RX3 "upper" "I" ∈ TB := tb_of (List.mem_of_getElem? (i := 139) (by decide +kernel)) (by decide +kernel)
theorem k_140 : Cond.fieldLink RX5 220 RX3 "upper" "I" ∈ TB := tb_of (List.mem_of_getElem? (i := 140) (by decide +kernel)) (by decide +kernel)
theorem k_141 : Cond.fieldLink RX3 34 RX3 "guess" "I" ∈ TB := tb_of (List.mem_of_getElem? (i := 141) (by decide +kernel)) (by decide +kernel)
theorem k_142 : Cond.fieldLink RX5 159 RX3 "guess" "I" ∈ TB := tb_of (List.mem_of_getElem? (i := 142) (by decide +kernel)) (by decide +kernel)
theorem k_143 : Cond.lays RX3 RX3 "kind" "I" ∈ TB := tb_of (List.mem_of_getElem? (i := 143) (by decide +kernel)) (by decide +kernel)
theorem k_145 : Cond.lays RX3 RX3 "layers" "I" ∈ TB := tb_of (List.mem_of_getElem? (i := 145) (by decide +kernel)) (by decide +kernel)
theorem k_147 : Cond.lays RX3 RX3 "limit" "I" ∈ TB := tb_of (List.mem_of_getElem? (i := 147) (by decide +kernel)) (by decide +kernel)
theorem k_149 : Cond.lays RX3 RX3 "tolerance" "I" ∈ TB := tb_of (List.mem_of_getElem? (i := 149) (by decide +kernel)) (by decide +kernel)
theorem k_151 : Cond.lays RX3 RX3 "stopped" "Z" ∈ TB := tb_of (List.mem_of_getElem? (i := 151) (by decide +kernel)) (by decide +kernel)
theorem k_153 : Cond.lays RX3 RX3 "lower" "I" ∈ TB := tb_of (List.mem_of_getElem? (i := 153) (by decide +kernel)) (by decide +kernel)
theorem k_155 : Cond.lays RX3 RX3 "upper" "I" ∈ TB := tb_of (List.mem_of_getElem? (i := 155) (by decide +kernel)) (by decide +kernel)
theorem k_157 : Cond.lays RX3 RX3 "guess" "I" ∈ TB := tb_of (List.mem_of_getElem? (i := 157) (by decide +kernel)) (by decide +kernel)
theorem k_160 : Cond.fieldLink RX4 11 RX4 "blocks" "[LSureAnswers$Block;" ∈ TB := tb_of (List.mem_of_getElem? (i := 160) (by decide +kernel)) (by decide +kernel)
theorem k_161 : Cond.fieldLink RX5 69 RX4 "blocks" "[LSureAnswers$Block;" ∈ TB := tb_of (List.mem_of_getElem? (i := 161) (by decide +kernel)) (by decide +kernel)
theorem k_162 : Cond.fieldLink RX4 19 RX4 "questions" "[LSureAnswers$Question;" ∈ TB := tb_of (List.mem_of_getElem? (i := 162) (by decide +kernel)) (by decide +kernel)
theorem k_163 : Cond.fieldLink RX5 135 RX4 "questions" "[LSureAnswers$Question;" ∈ TB := tb_of (List.mem_of_getElem? (i := 163) (by decide +kernel)) (by decide +kernel)
theorem k_164 : Cond.fieldLink RX4 25 RX4 "blockCount" "I" ∈ TB := tb_of (List.mem_of_getElem? (i := 164) (by decide +kernel)) (by decide +kernel)
theorem k_165 : Cond.fieldLink RX5 51 RX4 "blockCount" "I" ∈ TB := tb_of (List.mem_of_getElem? (i := 165) (by decide +kernel)) (by decide +kernel)
theorem k_166 : Cond.fieldLink RX4 33 RX4 "questionCount" "I" ∈ TB := tb_of (List.mem_of_getElem? (i := 166) (by decide +kernel)) (by decide +kernel)
theorem k_167 : Cond.fieldLink RX5 125 RX4 "questionCount" "I" ∈ TB := tb_of (List.mem_of_getElem? (i := 167) (by decide +kernel)) (by decide +kernel)
theorem k_168 : Cond.fieldLink RX4 39 RX4 "plan" "I" ∈ TB := tb_of (List.mem_of_getElem? (i := 168) (by decide +kernel)) (by decide +kernel)
theorem k_169 : Cond.fieldLink RX5 165 RX4 "plan" "I" ∈ TB := tb_of (List.mem_of_getElem? (i := 169) (by decide +kernel)) (by decide +kernel)
theorem k_170 : Cond.fieldLink RX4 42 RX4 "turn" "I" ∈ TB := tb_of (List.mem_of_getElem? (i := 170) (by decide +kernel)) (by decide +kernel)
theorem k_171 : Cond.fieldLink RX5 223 RX4 "turn" "I" ∈ TB := tb_of (List.mem_of_getElem? (i := 171) (by decide +kernel)) (by decide +kernel)
theorem k_172 : Cond.laysFinal RX4 RX4 "blocks" "[LSureAnswers$Block;" ∈ TB := tb_of (List.mem_of_getElem? (i := 172) (by decide +kernel)) (by decide +kernel)
theorem k_174 : Cond.laysFinal RX4 RX4 "questions" "[LSureAnswers$Question;" ∈ TB := tb_of (List.mem_of_getElem? (i := 174) (by decide +kernel)) (by decide +kernel)
theorem k_176 : Cond.lays RX4 RX4 "blockCount" "I" ∈ TB := tb_of (List.mem_of_getElem? (i := 176) (by decide +kernel)) (by decide +kernel)
theorem k_178 : Cond.lays RX4 RX4 "questionCount" "I" ∈ TB := tb_of (List.mem_of_getElem? (i := 178) (by decide +kernel)) (by decide +kernel)
theorem k_180 : Cond.lays RX4 RX4 "plan" "I" ∈ TB := tb_of (List.mem_of_getElem? (i := 180) (by decide +kernel)) (by decide +kernel)
theorem k_182 : Cond.lays RX4 RX4 "turn" "I" ∈ TB := tb_of (List.mem_of_getElem? (i := 182) (by decide +kernel)) (by decide +kernel)
theorem k_185 : Cond.classLink RX5 29 RX2 ∈ TB := tb_of (List.mem_of_getElem? (i := 185) (by decide +kernel)) (by decide +kernel)
theorem k_186 : Cond.instantiable RX2 3 ∈ TB := tb_of (List.mem_of_getElem? (i := 186) (by decide +kernel)) (by decide +kernel)
theorem k_187 : Cond.methodLink RX5 31 yX2_init ∈ TB := tb_of (List.mem_of_getElem? (i := 187) (by decide +kernel)) (by decide +kernel)
theorem k_188 : Cond.instanceMethod yX2_init ∈ TB := tb_of (List.mem_of_getElem? (i := 188) (by decide +kernel)) (by decide +kernel)
theorem k_189 : Cond.code yX2_init cX2_init 2 none ∈ TB := tb_of (List.mem_of_getElem? (i := 189) (by decide +kernel)) (by decide +kernel)
theorem k_190 : Cond.methodLink RX2 3 objectInit ∈ TB := tb_of (List.mem_of_getElem? (i := 190) (by decide +kernel)) (by decide +kernel)
theorem k_191 : Cond.classLink RX2 9 RX4 ∈ TB := tb_of (List.mem_of_getElem? (i := 191) (by decide +kernel)) (by decide +kernel)
theorem k_193 : Cond.methodLink RX2 17 yX4_init ∈ TB := tb_of (List.mem_of_getElem? (i := 193) (by decide +kernel)) (by decide +kernel)
theorem k_194 : Cond.fieldLink RX2 11 RX2 "states" "[LSureAnswers$State;" ∈ TB := tb_of (List.mem_of_getElem? (i := 194) (by decide +kernel)) (by decide +kernel)
theorem k_195 : Cond.fieldLink RX2 18 RX2 "oldest" "I" ∈ TB := tb_of (List.mem_of_getElem? (i := 195) (by decide +kernel)) (by decide +kernel)
theorem k_196 : Cond.fieldLink RX2 22 RX2 "size" "I" ∈ TB := tb_of (List.mem_of_getElem? (i := 196) (by decide +kernel)) (by decide +kernel)
theorem k_197 : Cond.fieldLink RX5 192 RX2 "size" "I" ∈ TB := tb_of (List.mem_of_getElem? (i := 197) (by decide +kernel)) (by decide +kernel)
theorem k_198 : Cond.laysFinal RX2 RX2 "states" "[LSureAnswers$State;" ∈ TB := tb_of (List.mem_of_getElem? (i := 198) (by decide +kernel)) (by decide +kernel)
theorem k_200 : Cond.lays RX2 RX2 "oldest" "I" ∈ TB := tb_of (List.mem_of_getElem? (i := 200) (by decide +kernel)) (by decide +kernel)
theorem k_202 : Cond.lays RX2 RX2 "size" "I" ∈ TB := tb_of (List.mem_of_getElem? (i := 202) (by decide +kernel)) (by decide +kernel)
theorem k_205 : Cond.fieldLink RX5 12 RX5 "text" "LSureAnswers$BlockText;" ∈ TB := tb_of (List.mem_of_getElem? (i := 205) (by decide +kernel)) (by decide +kernel)
theorem k_206 : Cond.fieldLink RX5 19 RX5 "state" "LSureAnswers$State;" ∈ TB := tb_of (List.mem_of_getElem? (i := 206) (by decide +kernel)) (by decide +kernel)
theorem k_207 : Cond.fieldLink RX5 23 RX5 "trial" "LSureAnswers$State;" ∈ TB := tb_of (List.mem_of_getElem? (i := 207) (by decide +kernel)) (by decide +kernel)
theorem k_208 : Cond.fieldLink RX5 26 RX5 "snapshot" "LSureAnswers$State;" ∈ TB := tb_of (List.mem_of_getElem? (i := 208) (by decide +kernel)) (by decide +kernel)
theorem k_209 : Cond.fieldLink RX5 32 RX5 "history" "LSureAnswers$History;" ∈ TB := tb_of (List.mem_of_getElem? (i := 209) (by decide +kernel)) (by decide +kernel)
theorem k_210 : Cond.fieldLink RX5 36 RX5 "hasSnapshot" "Z" ∈ TB := tb_of (List.mem_of_getElem? (i := 210) (by decide +kernel)) (by decide +kernel)
theorem k_211 : Cond.laysFinal RX5 RX5 "text" "LSureAnswers$BlockText;" ∈ TB := tb_of (List.mem_of_getElem? (i := 211) (by decide +kernel)) (by decide +kernel)
theorem k_213 : Cond.laysFinal RX5 RX5 "state" "LSureAnswers$State;" ∈ TB := tb_of (List.mem_of_getElem? (i := 213) (by decide +kernel)) (by decide +kernel)
theorem k_215 : Cond.laysFinal RX5 RX5 "trial" "LSureAnswers$State;" ∈ TB := tb_of (List.mem_of_getElem? (i := 215) (by decide +kernel)) (by decide +kernel)
theorem k_217 : Cond.laysFinal RX5 RX5 "snapshot" "LSureAnswers$State;" ∈ TB := tb_of (List.mem_of_getElem? (i := 217) (by decide +kernel)) (by decide +kernel)
theorem k_219 : Cond.laysFinal RX5 RX5 "history" "LSureAnswers$History;" ∈ TB := tb_of (List.mem_of_getElem? (i := 219) (by decide +kernel)) (by decide +kernel)
theorem k_221 : Cond.lays RX5 RX5 "hasSnapshot" "Z" ∈ TB := tb_of (List.mem_of_getElem? (i := 221) (by decide +kernel)) (by decide +kernel)
theorem k_224 : Cond.methodLink RL 69 yX5_setPlan ∈ TB := tb_of (List.mem_of_getElem? (i := 224) (by decide +kernel)) (by decide +kernel)
theorem k_225 : Cond.instanceMethod yX5_setPlan ∈ TB := tb_of (List.mem_of_getElem? (i := 225) (by decide +kernel)) (by decide +kernel)
theorem k_226 : Cond.selects RX5 yX5_setPlan yX5_setPlan ∈ TB := tb_of (List.mem_of_getElem? (i := 226) (by decide +kernel)) (by decide +kernel)
theorem k_227 : Cond.code yX5_setPlan cX5_setPlan 3 (some .int) ∈ TB := tb_of (List.mem_of_getElem? (i := 227) (by decide +kernel)) (by decide +kernel)
theorem k_228 : Cond.methodLink RX5 120 yX5_isFromTo ∈ TB := tb_of (List.mem_of_getElem? (i := 228) (by decide +kernel)) (by decide +kernel)
theorem k_229 : Cond.static yX5_isFromTo ∈ TB := tb_of (List.mem_of_getElem? (i := 229) (by decide +kernel)) (by decide +kernel)
theorem k_230 : Cond.code yX5_isFromTo cX5_isFromTo 3 (some .boolean) ∈ TB := tb_of (List.mem_of_getElem? (i := 230) (by decide +kernel)) (by decide +kernel)
theorem k_231 : Cond.methodLink RX5 54 yX2_record ∈ TB := tb_of (List.mem_of_getElem? (i := 231) (by decide +kernel)) (by decide +kernel)
theorem k_232 : Cond.instanceMethod yX2_record ∈ TB := tb_of (List.mem_of_getElem? (i := 232) (by decide +kernel)) (by decide +kernel)
theorem k_233 : Cond.selects RX2 yX2_record yX2_record ∈ TB := tb_of (List.mem_of_getElem? (i := 233) (by decide +kernel)) (by decide +kernel)
theorem k_234 : Cond.code yX2_record cX2_record 2 none ∈ TB := tb_of (List.mem_of_getElem? (i := 234) (by decide +kernel)) (by decide +kernel)
theorem k_235 : Cond.methodLink RX2 25 yX4_copyFrom ∈ TB := tb_of (List.mem_of_getElem? (i := 235) (by decide +kernel)) (by decide +kernel)
theorem k_236 : Cond.instanceMethod yX4_copyFrom ∈ TB := tb_of (List.mem_of_getElem? (i := 236) (by decide +kernel)) (by decide +kernel)
theorem k_237 : Cond.selects RX4 yX4_copyFrom yX4_copyFrom ∈ TB := tb_of (List.mem_of_getElem? (i := 237) (by decide +kernel)) (by decide +kernel)
theorem k_238 : Cond.code yX4_copyFrom cX4_copyFrom 3 none ∈ TB := tb_of (List.mem_of_getElem? (i := 238) (by decide +kernel)) (by decide +kernel)
theorem k_239 : Cond.methodLink RX4 29 yX0_copyFrom ∈ TB := tb_of (List.mem_of_getElem? (i := 239) (by decide +kernel)) (by decide +kernel)
theorem k_240 : Cond.instanceMethod yX0_copyFrom ∈ TB := tb_of (List.mem_of_getElem? (i := 240) (by decide +kernel)) (by decide +kernel)
theorem k_241 : Cond.selects RX0 yX0_copyFrom yX0_copyFrom ∈ TB := tb_of (List.mem_of_getElem? (i := 241) (by decide +kernel)) (by decide +kernel)
theorem k_242 : Cond.code yX0_copyFrom cX0_copyFrom 2 none ∈ TB := tb_of (List.mem_of_getElem? (i := 242) (by decide +kernel)) (by decide +kernel)
theorem k_243 : Cond.methodLink RX0 15 arraycopyName ∈ TB := tb_of (List.mem_of_getElem? (i := 243) (by decide +kernel)) (by decide +kernel)
theorem k_244 : Cond.static arraycopyName ∈ TB := tb_of (List.mem_of_getElem? (i := 244) (by decide +kernel)) (by decide +kernel)
theorem k_245 : Cond.native arraycopyName ∈ TB := tb_of (List.mem_of_getElem? (i := 245) (by decide +kernel)) (by decide +kernel)
theorem k_246 : Cond.methodLink RX4 36 yX3_copyFrom ∈ TB := tb_of (List.mem_of_getElem? (i := 246) (by decide +kernel)) (by decide +kernel)
theorem k_247 : Cond.instanceMethod yX3_copyFrom ∈ TB := tb_of (List.mem_of_getElem? (i := 247) (by decide +kernel)) (by decide +kernel)
theorem k_248 : Cond.selects RX3 yX3_copyFrom yX3_copyFrom ∈ TB := tb_of (List.mem_of_getElem? (i := 248) (by decide +kernel)) (by decide +kernel)
theorem k_249 : Cond.code yX3_copyFrom cX3_copyFrom 2 none ∈ TB := tb_of (List.mem_of_getElem? (i := 249) (by decide +kernel)) (by decide +kernel)
theorem k_250 : Cond.methodLink RX5 62 yX4_settle ∈ TB := tb_of (List.mem_of_getElem? (i := 250) (by decide +kernel)) (by decide +kernel)
theorem k_251 : Cond.instanceMethod yX4_settle ∈ TB := tb_of (List.mem_of_getElem? (i := 251) (by decide +kernel)) (by decide +kernel)
theorem k_252 : Cond.selects RX4 yX4_settle yX4_settle ∈ TB := tb_of (List.mem_of_getElem? (i := 252) (by decide +kernel)) (by decide +kernel)
theorem k_253 : Cond.code yX4_settle cX4_settle 3 none ∈ TB := tb_of (List.mem_of_getElem? (i := 253) (by decide +kernel)) (by decide +kernel)
theorem k_254 : Cond.methodLink RX4 93 yX4_rows ∈ TB := tb_of (List.mem_of_getElem? (i := 254) (by decide +kernel)) (by decide +kernel)
theorem k_255 : Cond.instanceMethod yX4_rows ∈ TB := tb_of (List.mem_of_getElem? (i := 255) (by decide +kernel)) (by decide +kernel)
theorem k_256 : Cond.selects RX4 yX4_rows yX4_rows ∈ TB := tb_of (List.mem_of_getElem? (i := 256) (by decide +kernel)) (by decide +kernel)
theorem k_257 : Cond.code yX4_rows cX4_rows 4 (some .int) ∈ TB := tb_of (List.mem_of_getElem? (i := 257) (by decide +kernel)) (by decide +kernel)
theorem k_258 : Cond.methodLinkNest RX4 86 yX5_covers RX5 ∈ lw_tbl := lw_of (List.mem_of_getElem? (i := 258) (by decide +kernel))
theorem k_259 : Cond.static yX5_covers ∈ TB := tb_of (List.mem_of_getElem? (i := 259) (by decide +kernel)) (by decide +kernel)
theorem k_260 : Cond.code yX5_covers cX5_covers 2 (some .boolean) ∈ TB := tb_of (List.mem_of_getElem? (i := 260) (by decide +kernel)) (by decide +kernel)
theorem k_261 : Cond.methodLink RX4 96 yX4_answer ∈ TB := tb_of (List.mem_of_getElem? (i := 261) (by decide +kernel)) (by decide +kernel)
theorem k_262 : Cond.instanceMethod yX4_answer ∈ TB := tb_of (List.mem_of_getElem? (i := 262) (by decide +kernel)) (by decide +kernel)
theorem k_263 : Cond.selects RX4 yX4_answer yX4_answer ∈ TB := tb_of (List.mem_of_getElem? (i := 263) (by decide +kernel)) (by decide +kernel)
theorem k_264 : Cond.code yX4_answer cX4_answer 10 (some .int) ∈ TB := tb_of (List.mem_of_getElem? (i := 264) (by decide +kernel)) (by decide +kernel)
theorem k_265 : Cond.methodLink RX4 109 yX4_assumed ∈ TB := tb_of (List.mem_of_getElem? (i := 265) (by decide +kernel)) (by decide +kernel)
theorem k_266 : Cond.instanceMethod yX4_assumed ∈ TB := tb_of (List.mem_of_getElem? (i := 266) (by decide +kernel)) (by decide +kernel)
theorem k_267 : Cond.selects RX4 yX4_assumed yX4_assumed ∈ TB := tb_of (List.mem_of_getElem? (i := 267) (by decide +kernel)) (by decide +kernel)
theorem k_268 : Cond.code yX4_assumed cX4_assumed 6 (some .int) ∈ TB := tb_of (List.mem_of_getElem? (i := 268) (by decide +kernel)) (by decide +kernel)
theorem k_269 : Cond.methodLink RX4 117 Lib.Math.min.name ∈ TB := tb_of (List.mem_of_getElem? (i := 269) (by decide +kernel)) (by decide +kernel)
theorem k_270 : Cond.static Lib.Math.min.name ∈ TB := tb_of (List.mem_of_getElem? (i := 270) (by decide +kernel)) (by decide +kernel)
theorem k_271 : Cond.code Lib.Math.min.name Lib.Math.min.code 2 (some .int) ∈ TB := tb_of (List.mem_of_getElem? (i := 271) (by decide +kernel)) (by decide +kernel)
theorem k_272 : Cond.methodLink RX4 123 Lib.Math.max.name ∈ TB := tb_of (List.mem_of_getElem? (i := 272) (by decide +kernel)) (by decide +kernel)
theorem k_273 : Cond.static Lib.Math.max.name ∈ TB := tb_of (List.mem_of_getElem? (i := 273) (by decide +kernel)) (by decide +kernel)
theorem k_274 : Cond.code Lib.Math.max.name Lib.Math.max.code 2 (some .int) ∈ TB := tb_of (List.mem_of_getElem? (i := 274) (by decide +kernel)) (by decide +kernel)
theorem k_275 : Cond.methodLink RX4 113 yX0_share ∈ TB := tb_of (List.mem_of_getElem? (i := 275) (by decide +kernel)) (by decide +kernel)
theorem k_276 : Cond.instanceMethod yX0_share ∈ TB := tb_of (List.mem_of_getElem? (i := 276) (by decide +kernel)) (by decide +kernel)
theorem k_277 : Cond.selects RX0 yX0_share yX0_share ∈ TB := tb_of (List.mem_of_getElem? (i := 277) (by decide +kernel)) (by decide +kernel)
theorem k_278 : Cond.code yX0_share cX0_share 5 (some .int) ∈ TB := tb_of (List.mem_of_getElem? (i := 278) (by decide +kernel)) (by decide +kernel)
theorem k_279 : Cond.methodLink RX0 74 yX0_unread ∈ TB := tb_of (List.mem_of_getElem? (i := 279) (by decide +kernel)) (by decide +kernel)
theorem k_280 : Cond.instanceMethod yX0_unread ∈ TB := tb_of (List.mem_of_getElem? (i := 280) (by decide +kernel)) (by decide +kernel)
theorem k_281 : Cond.selects RX0 yX0_unread yX0_unread ∈ TB := tb_of (List.mem_of_getElem? (i := 281) (by decide +kernel)) (by decide +kernel)
theorem k_282 : Cond.code yX0_unread cX0_unread 1 (some .int) ∈ TB := tb_of (List.mem_of_getElem? (i := 282) (by decide +kernel)) (by decide +kernel)
theorem k_283 : Cond.methodLink RX0 77 yX0_readFromLimit ∈ TB := tb_of (List.mem_of_getElem? (i := 283) (by decide +kernel)) (by decide +kernel)
theorem k_284 : Cond.instanceMethod yX0_readFromLimit ∈ TB := tb_of (List.mem_of_getElem? (i := 284) (by decide +kernel)) (by decide +kernel)
theorem k_285 : Cond.selects RX0 yX0_readFromLimit yX0_readFromLimit ∈ TB := tb_of (List.mem_of_getElem? (i := 285) (by decide +kernel)) (by decide +kernel)
theorem k_286 : Cond.code yX0_readFromLimit cX0_readFromLimit 4 (some .int) ∈ TB := tb_of (List.mem_of_getElem? (i := 286) (by decide +kernel)) (by decide +kernel)
theorem k_287 : Cond.methodLink RX0 61 Lib.Math.min.name ∈ TB := tb_of (List.mem_of_getElem? (i := 287) (by decide +kernel)) (by decide +kernel)
theorem k_288 : Cond.methodLink RX0 67 Lib.Math.max.name ∈ TB := tb_of (List.mem_of_getElem? (i := 288) (by decide +kernel)) (by decide +kernel)
theorem k_289 : Cond.methodLink RX4 106 yX3_finish ∈ TB := tb_of (List.mem_of_getElem? (i := 289) (by decide +kernel)) (by decide +kernel)
theorem k_290 : Cond.instanceMethod yX3_finish ∈ TB := tb_of (List.mem_of_getElem? (i := 290) (by decide +kernel)) (by decide +kernel)
theorem k_291 : Cond.selects RX3 yX3_finish yX3_finish ∈ TB := tb_of (List.mem_of_getElem? (i := 291) (by decide +kernel)) (by decide +kernel)
theorem k_292 : Cond.code yX3_finish cX3_finish 2 none ∈ TB := tb_of (List.mem_of_getElem? (i := 292) (by decide +kernel)) (by decide +kernel)
theorem k_293 : Cond.methodLink RL 105 yX5_read ∈ TB := tb_of (List.mem_of_getElem? (i := 293) (by decide +kernel)) (by decide +kernel)
theorem k_294 : Cond.instanceMethod yX5_read ∈ TB := tb_of (List.mem_of_getElem? (i := 294) (by decide +kernel)) (by decide +kernel)
theorem k_295 : Cond.selects RX5 yX5_read yX5_read ∈ TB := tb_of (List.mem_of_getElem? (i := 295) (by decide +kernel)) (by decide +kernel)
theorem k_296 : Cond.code yX5_read cX5_read 4 (some .int) ∈ TB := tb_of (List.mem_of_getElem? (i := 296) (by decide +kernel)) (by decide +kernel)
theorem k_297 : Cond.methodLink RX5 168 yX4_nextBlock ∈ TB := tb_of (List.mem_of_getElem? (i := 297) (by decide +kernel)) (by decide +kernel)
theorem k_298 : Cond.instanceMethod yX4_nextBlock ∈ TB := tb_of (List.mem_of_getElem? (i := 298) (by decide +kernel)) (by decide +kernel)
theorem k_299 : Cond.selects RX4 yX4_nextBlock yX4_nextBlock ∈ TB := tb_of (List.mem_of_getElem? (i := 299) (by decide +kernel)) (by decide +kernel)
theorem k_300 : Cond.code yX4_nextBlock cX4_nextBlock 1 (some .int) ∈ TB := tb_of (List.mem_of_getElem? (i := 300) (by decide +kernel)) (by decide +kernel)
theorem k_301 : Cond.methodLink RX4 139 yX4_blockInTurn ∈ TB := tb_of (List.mem_of_getElem? (i := 301) (by decide +kernel)) (by decide +kernel)
theorem k_302 : Cond.instanceMethod yX4_blockInTurn ∈ TB := tb_of (List.mem_of_getElem? (i := 302) (by decide +kernel)) (by decide +kernel)
theorem k_303 : Cond.selects RX4 yX4_blockInTurn yX4_blockInTurn ∈ TB := tb_of (List.mem_of_getElem? (i := 303) (by decide +kernel)) (by decide +kernel)
theorem k_304 : Cond.code yX4_blockInTurn cX4_blockInTurn 3 (some .int) ∈ TB := tb_of (List.mem_of_getElem? (i := 304) (by decide +kernel)) (by decide +kernel)
theorem k_305 : Cond.methodLink RX4 146 yX0_unread ∈ TB := tb_of (List.mem_of_getElem? (i := 305) (by decide +kernel)) (by decide +kernel)
theorem k_306 : Cond.methodLink RX4 143 yX4_mostPressingBlock ∈ TB := tb_of (List.mem_of_getElem? (i := 306) (by decide +kernel)) (by decide +kernel)
theorem k_307 : Cond.instanceMethod yX4_mostPressingBlock ∈ TB := tb_of (List.mem_of_getElem? (i := 307) (by decide +kernel)) (by decide +kernel)
theorem k_308 : Cond.selects RX4 yX4_mostPressingBlock yX4_mostPressingBlock ∈ TB := tb_of (List.mem_of_getElem? (i := 308) (by decide +kernel)) (by decide +kernel)
theorem k_309 : Cond.code yX4_mostPressingBlock cX4_mostPressingBlock 6 (some .int) ∈ TB := tb_of (List.mem_of_getElem? (i := 309) (by decide +kernel)) (by decide +kernel)
theorem k_310 : Cond.methodLink RX4 149 yX4_weight ∈ TB := tb_of (List.mem_of_getElem? (i := 310) (by decide +kernel)) (by decide +kernel)
theorem k_311 : Cond.instanceMethod yX4_weight ∈ TB := tb_of (List.mem_of_getElem? (i := 311) (by decide +kernel)) (by decide +kernel)
theorem k_312 : Cond.selects RX4 yX4_weight yX4_weight ∈ TB := tb_of (List.mem_of_getElem? (i := 312) (by decide +kernel)) (by decide +kernel)
theorem k_313 : Cond.code yX4_weight cX4_weight 5 (some .int) ∈ TB := tb_of (List.mem_of_getElem? (i := 313) (by decide +kernel)) (by decide +kernel)
theorem k_314 : Cond.methodLink RX4 135 yX3_urgency ∈ TB := tb_of (List.mem_of_getElem? (i := 314) (by decide +kernel)) (by decide +kernel)
theorem k_315 : Cond.instanceMethod yX3_urgency ∈ TB := tb_of (List.mem_of_getElem? (i := 315) (by decide +kernel)) (by decide +kernel)
theorem k_316 : Cond.selects RX3 yX3_urgency yX3_urgency ∈ TB := tb_of (List.mem_of_getElem? (i := 316) (by decide +kernel)) (by decide +kernel)
theorem k_317 : Cond.code yX3_urgency cX3_urgency 2 (some .int) ∈ TB := tb_of (List.mem_of_getElem? (i := 317) (by decide +kernel)) (by decide +kernel)
theorem k_318 : Cond.methodLink RX5 171 yX4_readByPlan ∈ TB := tb_of (List.mem_of_getElem? (i := 318) (by decide +kernel)) (by decide +kernel)
theorem k_319 : Cond.instanceMethod yX4_readByPlan ∈ TB := tb_of (List.mem_of_getElem? (i := 319) (by decide +kernel)) (by decide +kernel)
theorem k_320 : Cond.selects RX4 yX4_readByPlan yX4_readByPlan ∈ TB := tb_of (List.mem_of_getElem? (i := 320) (by decide +kernel)) (by decide +kernel)
theorem k_321 : Cond.code yX4_readByPlan cX4_readByPlan 2 (some .boolean) ∈ TB := tb_of (List.mem_of_getElem? (i := 321) (by decide +kernel)) (by decide +kernel)
theorem k_322 : Cond.methodLink RX4 152 yX4_nextBlock ∈ TB := tb_of (List.mem_of_getElem? (i := 322) (by decide +kernel)) (by decide +kernel)
theorem k_323 : Cond.methodLink RX4 49 yX4_hasBlock ∈ TB := tb_of (List.mem_of_getElem? (i := 323) (by decide +kernel)) (by decide +kernel)
theorem k_324 : Cond.instanceMethod yX4_hasBlock ∈ TB := tb_of (List.mem_of_getElem? (i := 324) (by decide +kernel)) (by decide +kernel)
theorem k_325 : Cond.selects RX4 yX4_hasBlock yX4_hasBlock ∈ TB := tb_of (List.mem_of_getElem? (i := 325) (by decide +kernel)) (by decide +kernel)
theorem k_326 : Cond.code yX4_hasBlock cX4_hasBlock 2 (some .boolean) ∈ TB := tb_of (List.mem_of_getElem? (i := 326) (by decide +kernel)) (by decide +kernel)
theorem k_327 : Cond.methodLinkNest RX4 45 yX5_isFromTo RX5 ∈ lw_tbl := lw_of (List.mem_of_getElem? (i := 327) (by decide +kernel))
theorem k_328 : Cond.methodLink RX4 155 yX0_readRow ∈ TB := tb_of (List.mem_of_getElem? (i := 328) (by decide +kernel)) (by decide +kernel)
theorem k_329 : Cond.instanceMethod yX0_readRow ∈ TB := tb_of (List.mem_of_getElem? (i := 329) (by decide +kernel)) (by decide +kernel)
theorem k_330 : Cond.selects RX0 yX0_readRow yX0_readRow ∈ TB := tb_of (List.mem_of_getElem? (i := 330) (by decide +kernel)) (by decide +kernel)
theorem k_331 : Cond.code yX0_readRow cX0_readRow 2 (some .int) ∈ TB := tb_of (List.mem_of_getElem? (i := 331) (by decide +kernel)) (by decide +kernel)
theorem k_332 : Cond.methodLink RX4 158 yX4_settle ∈ TB := tb_of (List.mem_of_getElem? (i := 332) (by decide +kernel)) (by decide +kernel)
theorem k_333 : Cond.methodLink RL 108 yX5_readOn ∈ TB := tb_of (List.mem_of_getElem? (i := 333) (by decide +kernel)) (by decide +kernel)
theorem k_334 : Cond.instanceMethod yX5_readOn ∈ TB := tb_of (List.mem_of_getElem? (i := 334) (by decide +kernel)) (by decide +kernel)
theorem k_335 : Cond.selects RX5 yX5_readOn yX5_readOn ∈ TB := tb_of (List.mem_of_getElem? (i := 335) (by decide +kernel)) (by decide +kernel)
theorem k_336 : Cond.code yX5_readOn cX5_readOn 1 (some .int) ∈ TB := tb_of (List.mem_of_getElem? (i := 336) (by decide +kernel)) (by decide +kernel)
theorem k_337 : Cond.methodLink RX5 174 yX4_openQuestions ∈ TB := tb_of (List.mem_of_getElem? (i := 337) (by decide +kernel)) (by decide +kernel)
theorem k_338 : Cond.instanceMethod yX4_openQuestions ∈ TB := tb_of (List.mem_of_getElem? (i := 338) (by decide +kernel)) (by decide +kernel)
theorem k_339 : Cond.selects RX4 yX4_openQuestions yX4_openQuestions ∈ TB := tb_of (List.mem_of_getElem? (i := 339) (by decide +kernel)) (by decide +kernel)
theorem k_340 : Cond.code yX4_openQuestions cX4_openQuestions 3 (some .int) ∈ TB := tb_of (List.mem_of_getElem? (i := 340) (by decide +kernel)) (by decide +kernel)
theorem k_341 : Cond.methodLink RX5 177 yX4_readWhileOpen ∈ TB := tb_of (List.mem_of_getElem? (i := 341) (by decide +kernel)) (by decide +kernel)
theorem k_342 : Cond.instanceMethod yX4_readWhileOpen ∈ TB := tb_of (List.mem_of_getElem? (i := 342) (by decide +kernel)) (by decide +kernel)
theorem k_343 : Cond.selects RX4 yX4_readWhileOpen yX4_readWhileOpen ∈ TB := tb_of (List.mem_of_getElem? (i := 343) (by decide +kernel)) (by decide +kernel)
theorem k_344 : Cond.code yX4_readWhileOpen cX4_readWhileOpen 3 (some .int) ∈ TB := tb_of (List.mem_of_getElem? (i := 344) (by decide +kernel)) (by decide +kernel)
theorem k_345 : Cond.methodLink RX4 161 yX4_openQuestions ∈ TB := tb_of (List.mem_of_getElem? (i := 345) (by decide +kernel)) (by decide +kernel)
theorem k_346 : Cond.methodLink RX4 164 yX4_readByPlan ∈ TB := tb_of (List.mem_of_getElem? (i := 346) (by decide +kernel)) (by decide +kernel)
theorem k_347 : Cond.methodLink RL 59 yX5_block ∈ TB := tb_of (List.mem_of_getElem? (i := 347) (by decide +kernel)) (by decide +kernel)
theorem k_348 : Cond.instanceMethod yX5_block ∈ TB := tb_of (List.mem_of_getElem? (i := 348) (by decide +kernel)) (by decide +kernel)
theorem k_349 : Cond.selects RX5 yX5_block yX5_block ∈ TB := tb_of (List.mem_of_getElem? (i := 349) (by decide +kernel)) (by decide +kernel)
theorem k_350 : Cond.code yX5_block cX5_block 4 (some .int) ∈ TB := tb_of (List.mem_of_getElem? (i := 350) (by decide +kernel)) (by decide +kernel)
theorem k_351 : Cond.methodLink RX5 65 yX4_hasBlock ∈ TB := tb_of (List.mem_of_getElem? (i := 351) (by decide +kernel)) (by decide +kernel)
theorem k_352 : Cond.methodLink RX5 204 yX4_weight ∈ TB := tb_of (List.mem_of_getElem? (i := 352) (by decide +kernel)) (by decide +kernel)
theorem k_353 : Cond.methodLink RL 102 yX5_value ∈ TB := tb_of (List.mem_of_getElem? (i := 353) (by decide +kernel)) (by decide +kernel)
theorem k_354 : Cond.instanceMethod yX5_value ∈ TB := tb_of (List.mem_of_getElem? (i := 354) (by decide +kernel)) (by decide +kernel)
theorem k_355 : Cond.selects RX5 yX5_value yX5_value ∈ TB := tb_of (List.mem_of_getElem? (i := 355) (by decide +kernel)) (by decide +kernel)
theorem k_356 : Cond.code yX5_value cX5_value 4 (some .int) ∈ TB := tb_of (List.mem_of_getElem? (i := 356) (by decide +kernel)) (by decide +kernel)
theorem k_357 : Cond.methodLink RX5 85 yX4_hasRow ∈ TB := tb_of (List.mem_of_getElem? (i := 357) (by decide +kernel)) (by decide +kernel)
theorem k_358 : Cond.instanceMethod yX4_hasRow ∈ TB := tb_of (List.mem_of_getElem? (i := 358) (by decide +kernel)) (by decide +kernel)
theorem k_359 : Cond.selects RX4 yX4_hasRow yX4_hasRow ∈ TB := tb_of (List.mem_of_getElem? (i := 359) (by decide +kernel)) (by decide +kernel)
theorem k_360 : Cond.code yX4_hasRow cX4_hasRow 3 (some .boolean) ∈ TB := tb_of (List.mem_of_getElem? (i := 360) (by decide +kernel)) (by decide +kernel)
theorem k_361 : Cond.methodLink RL 66 yX5_question ∈ TB := tb_of (List.mem_of_getElem? (i := 361) (by decide +kernel)) (by decide +kernel)
theorem k_362 : Cond.instanceMethod yX5_question ∈ TB := tb_of (List.mem_of_getElem? (i := 362) (by decide +kernel)) (by decide +kernel)
theorem k_363 : Cond.selects RX5 yX5_question yX5_question ∈ TB := tb_of (List.mem_of_getElem? (i := 363) (by decide +kernel)) (by decide +kernel)
theorem k_364 : Cond.code yX5_question cX5_question 4 (some .int) ∈ TB := tb_of (List.mem_of_getElem? (i := 364) (by decide +kernel)) (by decide +kernel)
theorem k_365 : Cond.methodLink RX5 132 yX4_hasQuestion ∈ TB := tb_of (List.mem_of_getElem? (i := 365) (by decide +kernel)) (by decide +kernel)
theorem k_366 : Cond.instanceMethod yX4_hasQuestion ∈ TB := tb_of (List.mem_of_getElem? (i := 366) (by decide +kernel)) (by decide +kernel)
theorem k_367 : Cond.selects RX4 yX4_hasQuestion yX4_hasQuestion ∈ TB := tb_of (List.mem_of_getElem? (i := 367) (by decide +kernel)) (by decide +kernel)
theorem k_368 : Cond.code yX4_hasQuestion cX4_hasQuestion 2 (some .boolean) ∈ TB := tb_of (List.mem_of_getElem? (i := 368) (by decide +kernel)) (by decide +kernel)
theorem k_369 : Cond.methodLink RX5 152 yX4_answer ∈ TB := tb_of (List.mem_of_getElem? (i := 369) (by decide +kernel)) (by decide +kernel)
theorem k_370 : Cond.methodLink RX5 150 yX4_rows ∈ TB := tb_of (List.mem_of_getElem? (i := 370) (by decide +kernel)) (by decide +kernel)
theorem k_371 : Cond.methodLink RX5 113 yX4_readRows ∈ TB := tb_of (List.mem_of_getElem? (i := 371) (by decide +kernel)) (by decide +kernel)
theorem k_372 : Cond.instanceMethod yX4_readRows ∈ TB := tb_of (List.mem_of_getElem? (i := 372) (by decide +kernel)) (by decide +kernel)
theorem k_373 : Cond.selects RX4 yX4_readRows yX4_readRows ∈ TB := tb_of (List.mem_of_getElem? (i := 373) (by decide +kernel)) (by decide +kernel)
theorem k_374 : Cond.code yX4_readRows cX4_readRows 4 (some .int) ∈ TB := tb_of (List.mem_of_getElem? (i := 374) (by decide +kernel)) (by decide +kernel)
theorem k_375 : Cond.methodLink RL 96 yX5_next ∈ TB := tb_of (List.mem_of_getElem? (i := 375) (by decide +kernel)) (by decide +kernel)
theorem k_376 : Cond.instanceMethod yX5_next ∈ TB := tb_of (List.mem_of_getElem? (i := 376) (by decide +kernel)) (by decide +kernel)
theorem k_377 : Cond.selects RX5 yX5_next yX5_next ∈ TB := tb_of (List.mem_of_getElem? (i := 377) (by decide +kernel)) (by decide +kernel)
theorem k_378 : Cond.code yX5_next cX5_next 3 (some .int) ∈ TB := tb_of (List.mem_of_getElem? (i := 378) (by decide +kernel)) (by decide +kernel)
theorem k_379 : Cond.methodLink RL 93 yX5_stopsIn ∈ TB := tb_of (List.mem_of_getElem? (i := 379) (by decide +kernel)) (by decide +kernel)
theorem k_380 : Cond.instanceMethod yX5_stopsIn ∈ TB := tb_of (List.mem_of_getElem? (i := 380) (by decide +kernel)) (by decide +kernel)
theorem k_381 : Cond.selects RX5 yX5_stopsIn yX5_stopsIn ∈ TB := tb_of (List.mem_of_getElem? (i := 381) (by decide +kernel)) (by decide +kernel)
theorem k_382 : Cond.code yX5_stopsIn cX5_stopsIn 4 (some .int) ∈ TB := tb_of (List.mem_of_getElem? (i := 382) (by decide +kernel)) (by decide +kernel)
theorem k_383 : Cond.methodLink RX5 198 yX4_copyFrom ∈ TB := tb_of (List.mem_of_getElem? (i := 383) (by decide +kernel)) (by decide +kernel)
theorem k_384 : Cond.methodLink RL 99 yX5_best ∈ TB := tb_of (List.mem_of_getElem? (i := 384) (by decide +kernel)) (by decide +kernel)
theorem k_385 : Cond.instanceMethod yX5_best ∈ TB := tb_of (List.mem_of_getElem? (i := 385) (by decide +kernel)) (by decide +kernel)
theorem k_386 : Cond.selects RX5 yX5_best yX5_best ∈ TB := tb_of (List.mem_of_getElem? (i := 386) (by decide +kernel)) (by decide +kernel)
theorem k_387 : Cond.code yX5_best cX5_best 6 (some .int) ∈ TB := tb_of (List.mem_of_getElem? (i := 387) (by decide +kernel)) (by decide +kernel)
theorem k_388 : Cond.methodLink RL 72 yX5_count ∈ TB := tb_of (List.mem_of_getElem? (i := 388) (by decide +kernel)) (by decide +kernel)
theorem k_389 : Cond.instanceMethod yX5_count ∈ TB := tb_of (List.mem_of_getElem? (i := 389) (by decide +kernel)) (by decide +kernel)
theorem k_390 : Cond.selects RX5 yX5_count yX5_count ∈ TB := tb_of (List.mem_of_getElem? (i := 390) (by decide +kernel)) (by decide +kernel)
theorem k_391 : Cond.code yX5_count cX5_count 2 (some .int) ∈ TB := tb_of (List.mem_of_getElem? (i := 391) (by decide +kernel)) (by decide +kernel)
theorem k_392 : Cond.methodLink RL 45 yL_cell ∈ TB := tb_of (List.mem_of_getElem? (i := 392) (by decide +kernel)) (by decide +kernel)
theorem k_393 : Cond.static yL_cell ∈ TB := tb_of (List.mem_of_getElem? (i := 393) (by decide +kernel)) (by decide +kernel)
theorem k_394 : Cond.code yL_cell cL_cell 2 (some .int) ∈ TB := tb_of (List.mem_of_getElem? (i := 394) (by decide +kernel)) (by decide +kernel)
theorem k_395 : Cond.constant RL 7 (32452867 : Int32) ∈ TB := tb_of (List.mem_of_getElem? (i := 395) (by decide +kernel)) (by decide +kernel)
theorem k_396 : Cond.constant RL 8 (67867967 : Int32) ∈ TB := tb_of (List.mem_of_getElem? (i := 396) (by decide +kernel)) (by decide +kernel)
theorem k_397 : Cond.methodLink RL 10 yL_low ∈ TB := tb_of (List.mem_of_getElem? (i := 397) (by decide +kernel)) (by decide +kernel)
theorem k_398 : Cond.static yL_low ∈ TB := tb_of (List.mem_of_getElem? (i := 398) (by decide +kernel)) (by decide +kernel)
theorem k_399 : Cond.code yL_low cL_low 2 (some .int) ∈ TB := tb_of (List.mem_of_getElem? (i := 399) (by decide +kernel)) (by decide +kernel)
theorem k_400 : Cond.constant RL 9 (2147483647 : Int32) ∈ TB := tb_of (List.mem_of_getElem? (i := 400) (by decide +kernel)) (by decide +kernel)
theorem k_401 : Cond.methodLink RL 41 yL_valueOf ∈ TB := tb_of (List.mem_of_getElem? (i := 401) (by decide +kernel)) (by decide +kernel)
theorem k_402 : Cond.static yL_valueOf ∈ TB := tb_of (List.mem_of_getElem? (i := 402) (by decide +kernel)) (by decide +kernel)
theorem k_403 : Cond.code yL_valueOf cL_valueOf 3 (some .int) ∈ TB := tb_of (List.mem_of_getElem? (i := 403) (by decide +kernel)) (by decide +kernel)
theorem k_404 : Cond.methodLink RL 16 yL_bottom ∈ TB := tb_of (List.mem_of_getElem? (i := 404) (by decide +kernel)) (by decide +kernel)
theorem k_405 : Cond.static yL_bottom ∈ TB := tb_of (List.mem_of_getElem? (i := 405) (by decide +kernel)) (by decide +kernel)
theorem k_406 : Cond.code yL_bottom cL_bottom 1 (some .int) ∈ TB := tb_of (List.mem_of_getElem? (i := 406) (by decide +kernel)) (by decide +kernel)
theorem k_407 : Cond.methodLink RL 20 yL_top ∈ TB := tb_of (List.mem_of_getElem? (i := 407) (by decide +kernel)) (by decide +kernel)
theorem k_408 : Cond.static yL_top ∈ TB := tb_of (List.mem_of_getElem? (i := 408) (by decide +kernel)) (by decide +kernel)
theorem k_409 : Cond.code yL_top cL_top 1 (some .int) ∈ TB := tb_of (List.mem_of_getElem? (i := 409) (by decide +kernel)) (by decide +kernel)
theorem k_410 : Cond.methodLink RL 84 yL_build ∈ TB := tb_of (List.mem_of_getElem? (i := 410) (by decide +kernel)) (by decide +kernel)
theorem k_411 : Cond.static yL_build ∈ TB := tb_of (List.mem_of_getElem? (i := 411) (by decide +kernel)) (by decide +kernel)
theorem k_412 : Cond.code yL_build cL_build 11 (some .boolean) ∈ TB := tb_of (List.mem_of_getElem? (i := 412) (by decide +kernel)) (by decide +kernel)
theorem k_413 : Cond.methodLink RL 49 yL_write ∈ TB := tb_of (List.mem_of_getElem? (i := 413) (by decide +kernel)) (by decide +kernel)
theorem k_414 : Cond.static yL_write ∈ TB := tb_of (List.mem_of_getElem? (i := 414) (by decide +kernel)) (by decide +kernel)
theorem k_415 : Cond.code yL_write cL_write 5 (some .int) ∈ TB := tb_of (List.mem_of_getElem? (i := 415) (by decide +kernel)) (by decide +kernel)
theorem k_416 : Cond.methodLink RL 32 yL_layer ∈ TB := tb_of (List.mem_of_getElem? (i := 416) (by decide +kernel)) (by decide +kernel)
theorem k_417 : Cond.static yL_layer ∈ TB := tb_of (List.mem_of_getElem? (i := 417) (by decide +kernel)) (by decide +kernel)
theorem k_418 : Cond.code yL_layer cL_layer 1 (some .int) ∈ TB := tb_of (List.mem_of_getElem? (i := 418) (by decide +kernel)) (by decide +kernel)
theorem k_419 : Cond.methodLink RL 29 yL_type ∈ TB := tb_of (List.mem_of_getElem? (i := 419) (by decide +kernel)) (by decide +kernel)
theorem k_420 : Cond.static yL_type ∈ TB := tb_of (List.mem_of_getElem? (i := 420) (by decide +kernel)) (by decide +kernel)
theorem k_421 : Cond.code yL_type cL_type 3 (some .int) ∈ TB := tb_of (List.mem_of_getElem? (i := 421) (by decide +kernel)) (by decide +kernel)
theorem k_422 : Cond.methodLink RL 23 yX5_type ∈ TB := tb_of (List.mem_of_getElem? (i := 422) (by decide +kernel)) (by decide +kernel)
theorem k_423 : Cond.instanceMethod yX5_type ∈ TB := tb_of (List.mem_of_getElem? (i := 423) (by decide +kernel)) (by decide +kernel)
theorem k_424 : Cond.selects RX5 yX5_type yX5_type ∈ TB := tb_of (List.mem_of_getElem? (i := 424) (by decide +kernel)) (by decide +kernel)
theorem k_425 : Cond.code yX5_type cX5_type 2 (some .int) ∈ TB := tb_of (List.mem_of_getElem? (i := 425) (by decide +kernel)) (by decide +kernel)
theorem k_426 : Cond.methodLink RX5 189 yX1_append ∈ TB := tb_of (List.mem_of_getElem? (i := 426) (by decide +kernel)) (by decide +kernel)
theorem k_427 : Cond.instanceMethod yX1_append ∈ TB := tb_of (List.mem_of_getElem? (i := 427) (by decide +kernel)) (by decide +kernel)
theorem k_428 : Cond.selects RX1 yX1_append yX1_append ∈ TB := tb_of (List.mem_of_getElem? (i := 428) (by decide +kernel)) (by decide +kernel)
theorem k_429 : Cond.code yX1_append cX1_append 2 none ∈ TB := tb_of (List.mem_of_getElem? (i := 429) (by decide +kernel)) (by decide +kernel)
theorem k_430 : Cond.methodLink RL 35 yL_number ∈ TB := tb_of (List.mem_of_getElem? (i := 430) (by decide +kernel)) (by decide +kernel)
theorem k_431 : Cond.static yL_number ∈ TB := tb_of (List.mem_of_getElem? (i := 431) (by decide +kernel)) (by decide +kernel)
theorem k_432 : Cond.code yL_number cL_number 4 (some .int) ∈ TB := tb_of (List.mem_of_getElem? (i := 432) (by decide +kernel)) (by decide +kernel)
theorem k_433 : Cond.methodLink RL 38 yL_rows ∈ TB := tb_of (List.mem_of_getElem? (i := 433) (by decide +kernel)) (by decide +kernel)
theorem k_434 : Cond.static yL_rows ∈ TB := tb_of (List.mem_of_getElem? (i := 434) (by decide +kernel)) (by decide +kernel)
theorem k_435 : Cond.code yL_rows cL_rows 1 (some .int) ∈ TB := tb_of (List.mem_of_getElem? (i := 435) (by decide +kernel)) (by decide +kernel)
theorem k_436 : Cond.methodLink RL 52 yX5_addBlock ∈ TB := tb_of (List.mem_of_getElem? (i := 436) (by decide +kernel)) (by decide +kernel)
theorem k_437 : Cond.instanceMethod yX5_addBlock ∈ TB := tb_of (List.mem_of_getElem? (i := 437) (by decide +kernel)) (by decide +kernel)
theorem k_438 : Cond.selects RX5 yX5_addBlock yX5_addBlock ∈ TB := tb_of (List.mem_of_getElem? (i := 438) (by decide +kernel)) (by decide +kernel)
theorem k_439 : Cond.code yX5_addBlock cX5_addBlock 2 (some .int) ∈ TB := tb_of (List.mem_of_getElem? (i := 439) (by decide +kernel)) (by decide +kernel)
theorem k_440 : Cond.methodLink RX5 40 yX1_parse ∈ TB := tb_of (List.mem_of_getElem? (i := 440) (by decide +kernel)) (by decide +kernel)
theorem k_441 : Cond.instanceMethod yX1_parse ∈ TB := tb_of (List.mem_of_getElem? (i := 441) (by decide +kernel)) (by decide +kernel)
theorem k_442 : Cond.selects RX1 yX1_parse yX1_parse ∈ TB := tb_of (List.mem_of_getElem? (i := 442) (by decide +kernel)) (by decide +kernel)
theorem k_443 : Cond.code yX1_parse cX1_parse 1 (some .boolean) ∈ TB := tb_of (List.mem_of_getElem? (i := 443) (by decide +kernel)) (by decide +kernel)
theorem k_444 : Cond.methodLink RX1 26 yX1_takeDigit ∈ TB := tb_of (List.mem_of_getElem? (i := 444) (by decide +kernel)) (by decide +kernel)
theorem k_445 : Cond.instanceMethod yX1_takeDigit ∈ TB := tb_of (List.mem_of_getElem? (i := 445) (by decide +kernel)) (by decide +kernel)
theorem k_446 : Cond.selects RX1 yX1_takeDigit yX1_takeDigit ∈ TB := tb_of (List.mem_of_getElem? (i := 446) (by decide +kernel)) (by decide +kernel)
theorem k_447 : Cond.code yX1_takeDigit cX1_takeDigit 4 (some .int) ∈ TB := tb_of (List.mem_of_getElem? (i := 447) (by decide +kernel)) (by decide +kernel)
theorem k_448 : Cond.methodLink RX1 33 yX1_takeSign ∈ TB := tb_of (List.mem_of_getElem? (i := 448) (by decide +kernel)) (by decide +kernel)
theorem k_449 : Cond.instanceMethod yX1_takeSign ∈ TB := tb_of (List.mem_of_getElem? (i := 449) (by decide +kernel)) (by decide +kernel)
theorem k_450 : Cond.selects RX1 yX1_takeSign yX1_takeSign ∈ TB := tb_of (List.mem_of_getElem? (i := 450) (by decide +kernel)) (by decide +kernel)
theorem k_451 : Cond.code yX1_takeSign cX1_takeSign 2 (some .boolean) ∈ TB := tb_of (List.mem_of_getElem? (i := 451) (by decide +kernel)) (by decide +kernel)
theorem k_452 : Cond.methodLink RX1 37 yX1_takeNumber ∈ TB := tb_of (List.mem_of_getElem? (i := 452) (by decide +kernel)) (by decide +kernel)
theorem k_453 : Cond.instanceMethod yX1_takeNumber ∈ TB := tb_of (List.mem_of_getElem? (i := 453) (by decide +kernel)) (by decide +kernel)
theorem k_454 : Cond.selects RX1 yX1_takeNumber yX1_takeNumber ∈ TB := tb_of (List.mem_of_getElem? (i := 454) (by decide +kernel)) (by decide +kernel)
theorem k_455 : Cond.code yX1_takeNumber cX1_takeNumber 4 (some .int) ∈ TB := tb_of (List.mem_of_getElem? (i := 455) (by decide +kernel)) (by decide +kernel)
theorem k_456 : Cond.methodLink RX1 47 yX1_takeValues ∈ TB := tb_of (List.mem_of_getElem? (i := 456) (by decide +kernel)) (by decide +kernel)
theorem k_457 : Cond.instanceMethod yX1_takeValues ∈ TB := tb_of (List.mem_of_getElem? (i := 457) (by decide +kernel)) (by decide +kernel)
theorem k_458 : Cond.selects RX1 yX1_takeValues yX1_takeValues ∈ TB := tb_of (List.mem_of_getElem? (i := 458) (by decide +kernel)) (by decide +kernel)
theorem k_459 : Cond.code yX1_takeValues cX1_takeValues 3 (some .boolean) ∈ TB := tb_of (List.mem_of_getElem? (i := 459) (by decide +kernel)) (by decide +kernel)
theorem k_460 : Cond.methodLink RX5 48 yX1_isInRange ∈ TB := tb_of (List.mem_of_getElem? (i := 460) (by decide +kernel)) (by decide +kernel)
theorem k_461 : Cond.instanceMethod yX1_isInRange ∈ TB := tb_of (List.mem_of_getElem? (i := 461) (by decide +kernel)) (by decide +kernel)
theorem k_462 : Cond.selects RX1 yX1_isInRange yX1_isInRange ∈ TB := tb_of (List.mem_of_getElem? (i := 462) (by decide +kernel)) (by decide +kernel)
theorem k_463 : Cond.code yX1_isInRange cX1_isInRange 2 (some .boolean) ∈ TB := tb_of (List.mem_of_getElem? (i := 463) (by decide +kernel)) (by decide +kernel)
theorem k_464 : Cond.methodLinkNest RX1 54 yX5_isFromTo RX5 ∈ lw_tbl := lw_of (List.mem_of_getElem? (i := 464) (by decide +kernel))
theorem k_465 : Cond.methodLink RX5 58 yX4_appendBlock ∈ TB := tb_of (List.mem_of_getElem? (i := 465) (by decide +kernel)) (by decide +kernel)
theorem k_466 : Cond.instanceMethod yX4_appendBlock ∈ TB := tb_of (List.mem_of_getElem? (i := 466) (by decide +kernel)) (by decide +kernel)
theorem k_467 : Cond.selects RX4 yX4_appendBlock yX4_appendBlock ∈ TB := tb_of (List.mem_of_getElem? (i := 467) (by decide +kernel)) (by decide +kernel)
theorem k_468 : Cond.code yX4_appendBlock cX4_appendBlock 2 (some .int) ∈ TB := tb_of (List.mem_of_getElem? (i := 468) (by decide +kernel)) (by decide +kernel)
theorem k_469 : Cond.methodLink RX4 56 yX0_copyFromText ∈ TB := tb_of (List.mem_of_getElem? (i := 469) (by decide +kernel)) (by decide +kernel)
theorem k_470 : Cond.instanceMethod yX0_copyFromText ∈ TB := tb_of (List.mem_of_getElem? (i := 470) (by decide +kernel)) (by decide +kernel)
theorem k_471 : Cond.selects RX0 yX0_copyFromText yX0_copyFromText ∈ TB := tb_of (List.mem_of_getElem? (i := 471) (by decide +kernel)) (by decide +kernel)
theorem k_472 : Cond.code yX0_copyFromText cX0_copyFromText 2 none ∈ TB := tb_of (List.mem_of_getElem? (i := 472) (by decide +kernel)) (by decide +kernel)
theorem k_473 : Cond.methodLink RX0 53 yX0_readFirst ∈ TB := tb_of (List.mem_of_getElem? (i := 473) (by decide +kernel)) (by decide +kernel)
theorem k_474 : Cond.instanceMethod yX0_readFirst ∈ TB := tb_of (List.mem_of_getElem? (i := 474) (by decide +kernel)) (by decide +kernel)
theorem k_475 : Cond.selects RX0 yX0_readFirst yX0_readFirst ∈ TB := tb_of (List.mem_of_getElem? (i := 475) (by decide +kernel)) (by decide +kernel)
theorem k_476 : Cond.code yX0_readFirst cX0_readFirst 3 none ∈ TB := tb_of (List.mem_of_getElem? (i := 476) (by decide +kernel)) (by decide +kernel)
theorem k_477 : Cond.methodLink RX0 70 yX0_readRow ∈ TB := tb_of (List.mem_of_getElem? (i := 477) (by decide +kernel)) (by decide +kernel)
theorem k_478 : Cond.methodLink RL 56 yX5_clearText ∈ TB := tb_of (List.mem_of_getElem? (i := 478) (by decide +kernel)) (by decide +kernel)
theorem k_479 : Cond.instanceMethod yX5_clearText ∈ TB := tb_of (List.mem_of_getElem? (i := 479) (by decide +kernel)) (by decide +kernel)
theorem k_480 : Cond.selects RX5 yX5_clearText yX5_clearText ∈ TB := tb_of (List.mem_of_getElem? (i := 480) (by decide +kernel)) (by decide +kernel)
theorem k_481 : Cond.code yX5_clearText cX5_clearText 2 (some .int) ∈ TB := tb_of (List.mem_of_getElem? (i := 481) (by decide +kernel)) (by decide +kernel)
theorem k_482 : Cond.methodLink RL 62 yX5_ask ∈ TB := tb_of (List.mem_of_getElem? (i := 482) (by decide +kernel)) (by decide +kernel)
theorem k_483 : Cond.instanceMethod yX5_ask ∈ TB := tb_of (List.mem_of_getElem? (i := 483) (by decide +kernel)) (by decide +kernel)
theorem k_484 : Cond.selects RX5 yX5_ask yX5_ask ∈ TB := tb_of (List.mem_of_getElem? (i := 484) (by decide +kernel)) (by decide +kernel)
theorem k_485 : Cond.code yX5_ask cX5_ask 7 (some .int) ∈ TB := tb_of (List.mem_of_getElem? (i := 485) (by decide +kernel)) (by decide +kernel)
theorem k_486 : Cond.constant RX5 124 (99999 : Int32) ∈ TB := tb_of (List.mem_of_getElem? (i := 486) (by decide +kernel)) (by decide +kernel)
theorem k_487 : Cond.methodLink RX5 128 yX4_appendQuestion ∈ TB := tb_of (List.mem_of_getElem? (i := 487) (by decide +kernel)) (by decide +kernel)
theorem k_488 : Cond.instanceMethod yX4_appendQuestion ∈ TB := tb_of (List.mem_of_getElem? (i := 488) (by decide +kernel)) (by decide +kernel)
theorem k_489 : Cond.selects RX4 yX4_appendQuestion yX4_appendQuestion ∈ TB := tb_of (List.mem_of_getElem? (i := 489) (by decide +kernel)) (by decide +kernel)
theorem k_490 : Cond.code yX4_appendQuestion cX4_appendQuestion 6 (some .int) ∈ TB := tb_of (List.mem_of_getElem? (i := 490) (by decide +kernel)) (by decide +kernel)
theorem k_491 : Cond.methodLink RL 89 yL_areSound ∈ TB := tb_of (List.mem_of_getElem? (i := 491) (by decide +kernel)) (by decide +kernel)
theorem k_492 : Cond.static yL_areSound ∈ TB := tb_of (List.mem_of_getElem? (i := 492) (by decide +kernel)) (by decide +kernel)
theorem k_493 : Cond.code yL_areSound cL_areSound 5 (some .boolean) ∈ TB := tb_of (List.mem_of_getElem? (i := 493) (by decide +kernel)) (by decide +kernel)
theorem k_494 : Cond.methodLink RL 79 yL_isSound ∈ TB := tb_of (List.mem_of_getElem? (i := 494) (by decide +kernel)) (by decide +kernel)
theorem k_495 : Cond.static yL_isSound ∈ TB := tb_of (List.mem_of_getElem? (i := 495) (by decide +kernel)) (by decide +kernel)
theorem k_496 : Cond.code yL_isSound cL_isSound 12 (some .boolean) ∈ TB := tb_of (List.mem_of_getElem? (i := 496) (by decide +kernel)) (by decide +kernel)
theorem k_497 : Cond.methodLink RL 75 yL_truth ∈ TB := tb_of (List.mem_of_getElem? (i := 497) (by decide +kernel)) (by decide +kernel)
theorem k_498 : Cond.static yL_truth ∈ TB := tb_of (List.mem_of_getElem? (i := 498) (by decide +kernel)) (by decide +kernel)
theorem k_499 : Cond.code yL_truth cL_truth 12 (some .int) ∈ TB := tb_of (List.mem_of_getElem? (i := 499) (by decide +kernel)) (by decide +kernel)
theorem k_500 : Cond.constant RL 88 (200000 : Int32) ∈ TB := tb_of (List.mem_of_getElem? (i := 500) (by decide +kernel)) (by decide +kernel)
theorem k_64 : Cond.arrayOver (.object RX0) ∈ lw_tbl := lw_of (List.mem_of_getElem? (i := 64) (by decide +kernel))
theorem k_66 : Cond.arrayOver (.object RX3) ∈ lw_tbl := lw_of (List.mem_of_getElem? (i := 66) (by decide +kernel))
theorem k_192 : Cond.arrayOver (.object RX4) ∈ lw_tbl := lw_of (List.mem_of_getElem? (i := 192) (by decide +kernel))
/-- the words that name a private method of another class: they ride on the state, not among TB -/
def NXL : List Cond := [.methodLinkNest RX5 11 yX1_init RX5, .methodLinkNest RX4 23 yX0_init RX5, .methodLinkNest RX4 24 yX3_init RX5, .methodLinkNest RX4 86 yX5_covers RX5, .methodLinkNest RX4 45 yX5_isFromTo RX5, .methodLinkNest RX1 54 yX5_isFromTo RX5]
theorem NXL_lw : ∀ w ∈ NXL, w ∈ lw_tbl := List.forall_mem_cons.mpr ⟨k_19, List.forall_mem_cons.mpr ⟨k_68, List.forall_mem_cons.mpr ⟨k_116, List.forall_mem_cons.mpr ⟨k_258, List.forall_mem_cons.mpr ⟨k_327, List.forall_mem_cons.mpr ⟨k_464, fun _ h => absurd h List.not_mem_nil⟩⟩⟩⟩⟩⟩
theorem NXL_nest : ∀ w ∈ NXL, ∃ a i x h, w = .methodLinkNest a i x h := List.forall_mem_cons.mpr ⟨⟨_, _, _, _, rfl⟩, List.forall_mem_cons.mpr ⟨⟨_, _, _, _, rfl⟩, List.forall_mem_cons.mpr ⟨⟨_, _, _, _, rfl⟩, List.forall_mem_cons.mpr ⟨⟨_, _, _, _, rfl⟩, List.forall_mem_cons.mpr ⟨⟨_, _, _, _, rfl⟩, List.forall_mem_cons.mpr ⟨⟨_, _, _, _, rfl⟩, fun _ h => absurd h List.not_mem_nil⟩⟩⟩⟩⟩⟩
theorem k_19n : Cond.methodLinkNest RX5 11 yX1_init RX5 ∈ NXL := List.mem_of_getElem? (i := 0) rfl
theorem k_68n : Cond.methodLinkNest RX4 23 yX0_init RX5 ∈ NXL := List.mem_of_getElem? (i := 1) rfl
theorem k_116n : Cond.methodLinkNest RX4 24 yX3_init RX5 ∈ NXL := List.mem_of_getElem? (i := 2) rfl
theorem k_258n : Cond.methodLinkNest RX4 86 yX5_covers RX5 ∈ NXL := List.mem_of_getElem? (i := 3) rfl
theorem k_327n : Cond.methodLinkNest RX4 45 yX5_isFromTo RX5 ∈ NXL := List.mem_of_getElem? (i := 4) rfl
theorem k_464n : Cond.methodLinkNest RX1 54 yX5_isFromTo RX5 ∈ NXL := List.mem_of_getElem? (i := 5) rfl
theorem inX0 : ∀ w ∈ wsX00, w ∈ TB := by
  have e : wsX00 = [.laysFinal RX0 RX0 "values" "[I", .lays RX0 RX0 "layer" "I", .lays RX0 RX0 "bottom" "I", .lays RX0 RX0 "top" "I", .lays RX0 RX0 "rows" "I", .lays RX0 RX0 "read" "I", .lays RX0 RX0 "readSum" "I", .lays RX0 RX0 "readLeast" "I", .lays RX0 RX0 "readGreatest" "I"] := by decide +kernel
  rw [e]
  exact List.forall_mem_cons.mpr ⟨k_96, List.forall_mem_cons.mpr ⟨k_98, List.forall_mem_cons.mpr ⟨k_100, List.forall_mem_cons.mpr ⟨k_102, List.forall_mem_cons.mpr ⟨k_104, List.forall_mem_cons.mpr ⟨k_106, List.forall_mem_cons.mpr ⟨k_108, List.forall_mem_cons.mpr ⟨k_110, List.forall_mem_cons.mpr ⟨k_112, fun _ h => absurd h List.not_mem_nil⟩⟩⟩⟩⟩⟩⟩⟩⟩
theorem inX1 : ∀ w ∈ wsX10, w ∈ TB := by
  have e : wsX10 = [.laysFinal RX1 RX1 "characters" "[C", .laysFinal RX1 RX1 "values" "[I", .lays RX1 RX1 "length" "I", .lays RX1 RX1 "at" "I", .lays RX1 RX1 "layer" "I", .lays RX1 RX1 "bottom" "I", .lays RX1 RX1 "top" "I", .lays RX1 RX1 "rows" "I"] := by decide +kernel
  rw [e]
  exact List.forall_mem_cons.mpr ⟨k_38, List.forall_mem_cons.mpr ⟨k_40, List.forall_mem_cons.mpr ⟨k_42, List.forall_mem_cons.mpr ⟨k_44, List.forall_mem_cons.mpr ⟨k_46, List.forall_mem_cons.mpr ⟨k_48, List.forall_mem_cons.mpr ⟨k_50, List.forall_mem_cons.mpr ⟨k_52, fun _ h => absurd h List.not_mem_nil⟩⟩⟩⟩⟩⟩⟩⟩
theorem inX2 : ∀ w ∈ wsX20, w ∈ TB := by
  have e : wsX20 = [.laysFinal RX2 RX2 "states" "[LSureAnswers$State;", .lays RX2 RX2 "oldest" "I", .lays RX2 RX2 "size" "I"] := by decide +kernel
  rw [e]
  exact List.forall_mem_cons.mpr ⟨k_198, List.forall_mem_cons.mpr ⟨k_200, List.forall_mem_cons.mpr ⟨k_202, fun _ h => absurd h List.not_mem_nil⟩⟩⟩
theorem inX3 : ∀ w ∈ wsX30, w ∈ TB := by
  have e : wsX30 = [.lays RX3 RX3 "kind" "I", .lays RX3 RX3 "layers" "I", .lays RX3 RX3 "limit" "I", .lays RX3 RX3 "tolerance" "I", .lays RX3 RX3 "stopped" "Z", .lays RX3 RX3 "lower" "I", .lays RX3 RX3 "upper" "I", .lays RX3 RX3 "guess" "I"] := by decide +kernel
  rw [e]
  exact List.forall_mem_cons.mpr ⟨k_143, List.forall_mem_cons.mpr ⟨k_145, List.forall_mem_cons.mpr ⟨k_147, List.forall_mem_cons.mpr ⟨k_149, List.forall_mem_cons.mpr ⟨k_151, List.forall_mem_cons.mpr ⟨k_153, List.forall_mem_cons.mpr ⟨k_155, List.forall_mem_cons.mpr ⟨k_157, fun _ h => absurd h List.not_mem_nil⟩⟩⟩⟩⟩⟩⟩⟩
theorem inX4 : ∀ w ∈ wsX40, w ∈ TB := by
  have e : wsX40 = [.laysFinal RX4 RX4 "blocks" "[LSureAnswers$Block;", .laysFinal RX4 RX4 "questions" "[LSureAnswers$Question;", .lays RX4 RX4 "blockCount" "I", .lays RX4 RX4 "questionCount" "I", .lays RX4 RX4 "plan" "I", .lays RX4 RX4 "turn" "I"] := by decide +kernel
  rw [e]
  exact List.forall_mem_cons.mpr ⟨k_172, List.forall_mem_cons.mpr ⟨k_174, List.forall_mem_cons.mpr ⟨k_176, List.forall_mem_cons.mpr ⟨k_178, List.forall_mem_cons.mpr ⟨k_180, List.forall_mem_cons.mpr ⟨k_182, fun _ h => absurd h List.not_mem_nil⟩⟩⟩⟩⟩⟩
theorem inX5 : ∀ w ∈ wsX50, w ∈ TB := by
  have e : wsX50 = [.laysFinal RX5 RX5 "text" "LSureAnswers$BlockText;", .laysFinal RX5 RX5 "state" "LSureAnswers$State;", .laysFinal RX5 RX5 "trial" "LSureAnswers$State;", .laysFinal RX5 RX5 "snapshot" "LSureAnswers$State;", .laysFinal RX5 RX5 "history" "LSureAnswers$History;", .lays RX5 RX5 "hasSnapshot" "Z"] := by decide +kernel
  rw [e]
  exact List.forall_mem_cons.mpr ⟨k_211, List.forall_mem_cons.mpr ⟨k_213, List.forall_mem_cons.mpr ⟨k_215, List.forall_mem_cons.mpr ⟨k_217, List.forall_mem_cons.mpr ⟨k_219, List.forall_mem_cons.mpr ⟨k_221, fun _ h => absurd h List.not_mem_nil⟩⟩⟩⟩⟩⟩
end
section
/-! THE WORLD: all cells of the class and of the reference, at addresses 'ad g c' (a group, a cell of it); what they hold is a memory M g c k.
Groups 0 to 6: states (0 the state that is now, 1 trial, 2 snapshot, 3 to 6 the history's); 7 the text; 8 SureAnswers, History and its row; 9 the law's own row of 18. -/
abbrev SM : Type := Nat → Nat → Int32
abbrev MM : Type := Nat → SM
def sc (m : SM) (c : Nat) (f : Nat → Int32) : SM := fun c' => if c' = c then f else m c'
def up (m : SM) (c k : Nat) (v : Int32) : SM := fun c' k' => if c' = c ∧ k' = k then v else m c' k'
def gs (M : MM) (g : Nat) (m : SM) : MM := fun g' => if g' = g then m else M g'
theorem gs_at {M : MM} {g : Nat} {m : SM} : gs M g m g = m := by simp [gs]
theorem gs_ne {M : MM} {g g2 : Nat} {m : SM} (h : g2 ≠ g) : gs M g m g2 = M g2 := by simp [gs, h]
theorem gs_gs {M : MM} {g : Nat} {m m2 : SM} : gs (gs M g m) g m2 = gs M g m2 := by
  funext x
  by_cases h : x = g <;> simp [gs, h]
theorem gs_self {M : MM} {g : Nat} : gs M g (M g) = M := by
  funext x
  by_cases h : x = g <;> simp [gs, h]
theorem gs_same {M : MM} {g : Nat} {m : SM} (h : M g = m) : gs M g m = M := by rw [← h]; exact gs_self
theorem up_sc {m : SM} {c k : Nat} {v : Int32} : up m c k v = sc m c (upd (m c) k v) := by
  funext x y
  by_cases h : x = c
  · subst h
    simp [up, sc, upd]
  · simp [up, sc, h]
theorem sc_at {m : SM} {c : Nat} {f : Nat → Int32} : sc m c f c = f := by simp [sc]
theorem sc_ne {m : SM} {c c2 : Nat} {f : Nat → Int32} (h : c2 ≠ c) : sc m c f c2 = m c2 := by simp [sc, h]
/-! what a method's function is made of -/
def bd {S β : Type} (o : Option (Int32 × S)) (k : Int32 → S → Option β) : Option β := match o with
  | none => none
  | some x => k x.1 x.2
def b1 {β : Type} (o : Option Int32) (k : Int32 → Option β) : Option β := match o with
  | none => none
  | some x => k x
def lt1 {α β : Type} (e : α) (k : α → β) : β := k e
def gd {β : Type} (i : Int32) (n : Nat) (t : Option β) : Option β := if i < 0 ∨ n ≤ i.toNatClampNeg then none else t
def gz {β : Type} (v : Int32) (t : Option β) : Option β := if v = 0 ∨ v = 1 then t else none
def gn {β : Type} (v : Int32) (t : Option β) : Option β := if v = 0 then none else t
theorem t_bd {S β : Type} {o : Option (Int32 × S)} {k : Int32 → S → Option β} {v : β} (h : bd o k = some v) : ∃ r m, o = some (r, m) ∧ k r m = some v := by
  cases o with
  | none => cases h
  | some x => exact ⟨x.1, x.2, rfl, h⟩
theorem t_b1 {β : Type} {o : Option Int32} {k : Int32 → Option β} {v : β} (h : b1 o k = some v) : ∃ r, o = some r ∧ k r = some v := by
  cases o with
  | none => cases h
  | some x => exact ⟨x, rfl, h⟩
theorem t_lt {α β : Type} {e : α} {k : α → β} {v : β} (h : lt1 e k = v) : ∃ x, x = e ∧ k x = v := ⟨e, rfl, h⟩
theorem t_gd {β : Type} {i : Int32} {n : Nat} {t : Option β} {v : β} (h : gd i n t = some v) : vp_in i n ∧ t = some v := by
  unfold gd at h
  by_cases c : i < 0 ∨ n ≤ i.toNatClampNeg
  · rw [if_pos c] at h; cases h
  · rw [if_neg c] at h; exact ⟨c, h⟩
theorem t_gz {β : Type} {x : Int32} {t : Option β} {v : β} (h : gz x t = some v) : (x = 0 ∨ x = 1) ∧ t = some v := by
  unfold gz at h
  by_cases c : x = 0 ∨ x = 1
  · rw [if_pos c] at h; exact ⟨c, h⟩
  · rw [if_neg c] at h; cases h
theorem t_gn {β : Type} {x : Int32} {t : Option β} {v : β} (h : gn x t = some v) : ¬ x = 0 ∧ t = some v := by
  unfold gn at h
  by_cases c : x = 0
  · rw [if_pos c] at h; cases h
  · rw [if_neg c] at h; exact ⟨c, h⟩
theorem t_pos {α : Type} {c : Prop} [Decidable c] {a b v : α} (h : (if c then a else b) = v) (hc : c) : a = v := by rw [if_pos hc] at h; exact h
theorem t_neg {α : Type} {c : Prop} [Decidable c] {a b v : α} (h : (if c then a else b) = v) (hc : ¬ c) : b = v := by rw [if_neg hc] at h; exact h
theorem vin {i : Int32} {n : Nat} (h : vp_in i n) : i.toNatClampNeg < n := Nat.not_le.mp fun q => h (Or.inr q)
theorem t_ret {S : Type} {a b : Int32} {x y : S} (h : some (a, x) = some (b, y)) : a = b ∧ x = y := by cases h; exact ⟨rfl, rfl⟩
theorem nar_z {v : Int32} (h : v = 0 ∨ v = 1) : narrow .boolean (.int v) = .int v := by
  rcases h with rfl | rfl <;> rfl
theorem fit_z {v : Int32} (h : v = 0 ∨ v = 1) : fits .boolean (.int v) = true := by
  rcases h with rfl | rfl <;> rfl
def FU : Nat := 1000
def mn (x y : Int32) : Int32 := if y < x then y else x
def mx (x y : Int32) : Int32 := if x < y then y else x
theorem gs_atc {M : MM} {g c : Nat} {m : SM} : gs M g m g c = m c := by rw [gs_at]
theorem gs_nec {M : MM} {g g2 c : Nat} {m m2 : SM} (h : g2 ≠ g) (h2 : M g2 = m2) : gs M g m g2 c = m2 c := by rw [gs_ne h, h2]
theorem gs_nem {M : MM} {g g2 : Nat} {m m2 : SM} (h : g2 ≠ g) (h2 : M g2 = m2) : gs M g m g2 = m2 := by rw [gs_ne h, h2]
theorem gs_up {M : MM} {g c k : Nat} {m m1 : SM} {v : Int32} (e : m1 = up m c k v) : gs (gs M g m) g (up (gs M g m g) c k v) = gs M g m1 := by rw [gs_gs, gs_at, e]
theorem gs_sc {M : MM} {g c : Nat} {m m1 : SM} {f : Nat → Int32} (e : m1 = sc m c f) : gs (gs M g m) g (sc (gs M g m g) c f) = gs M g m1 := by rw [gs_gs, gs_at, e]
/-! the cells -/
def vids : List (Nat × Nat) := (List.range 7).flatMap (fun g => (List.range 25).map (fun c => (g, c))) ++ ((List.range 3).map (fun c => (7, c)) ++ ((List.range 3).map (fun c => (8, c)) ++ (List.range 1).map (fun c => (9, c))))
set_option maxRecDepth 100000 in
theorem vids_nd : vids.Nodup := by decide +kernel
theorem v_st {g c : Nat} (hg : g < 7) (hc : c < 25) : (g, c) ∈ vids := List.mem_append_left _ (List.mem_flatMap.mpr ⟨g, List.mem_range.mpr hg, List.mem_map.mpr ⟨c, List.mem_range.mpr hc, rfl⟩⟩)
theorem v_tx {c : Nat} (hc : c < 3) : (7, c) ∈ vids := List.mem_append_right _ (List.mem_append_left _ (List.mem_map.mpr ⟨c, List.mem_range.mpr hc, rfl⟩))
theorem v_mn {c : Nat} (hc : c < 3) : (8, c) ∈ vids := List.mem_append_right _ (List.mem_append_right _ (List.mem_append_left _ (List.mem_map.mpr ⟨c, List.mem_range.mpr hc, rfl⟩)))
theorem v_ra : (9, 0) ∈ vids := List.mem_append_right _ (List.mem_append_right _ (List.mem_append_right _ (List.mem_map.mpr ⟨0, List.mem_range.mpr (by decide), rfl⟩)))
theorem v_bk {g i : Nat} (hg : g < 7) (hi : i < 8) : (g, 3 + i) ∈ vids := v_st hg (by omega)
theorem v_va {g i : Nat} (hg : g < 7) (hi : i < 8) : (g, 11 + i) ∈ vids := v_st hg (by omega)
theorem v_qu {g i : Nat} (hg : g < 7) (hi : i < 6) : (g, 19 + i) ∈ vids := v_st hg (by omega)
abbrev rfs (f : Nat → Option Nat) : (Nat → Int32) ⊕ (Nat → Int64) ⊕ (Nat → UInt32) ⊕ (Nat → UInt64) ⊕ (Nat → Option Nat) := .inr (.inr (.inr (.inr f)))
/-- what a cell holds: its fields' or places' numbers are f; cy: the classes of int[], char[], Block[], Question[], State[] -/
def E (cy : Nat → ClassId) (ad : Nat → Nat → Nat) (q : Nat × Nat) (f : Nat → Int32) : va_E :=
  if q.1 < 7 then
    if q.2 = 0 then .inr (4, [.ref (ad q.1 1), .ref (ad q.1 2), .int (f 2), .int (f 3), .int (f 4), .int (f 5)])
    else if q.2 = 1 then .inl (cy 2, 8, rfs (fun k => some (ad q.1 (3 + k))))
    else if q.2 = 2 then .inl (cy 3, 6, rfs (fun k => some (ad q.1 (19 + k))))
    else if q.2 < 11 then .inr (0, [.ref (ad q.1 (q.2 + 8)), .int (f 1), .int (f 2), .int (f 3), .int (f 4), .int (f 5), .int (f 6), .int (f 7), .int (f 8)])
    else if q.2 < 19 then .inl (cy 0, 16, .inl f)
    else .inr (3, [.int (f 0), .int (f 1), .int (f 2), .int (f 3), .int (f 4), .int (f 5), .int (f 6), .int (f 7)])
  else if q.1 = 7 then
    if q.2 = 0 then .inr (1, [.ref (ad 7 1), .ref (ad 7 2), .int (f 2), .int (f 3), .int (f 4), .int (f 5), .int (f 6), .int (f 7)])
    else if q.2 = 1 then .inl (cy 1, 80, .inl f)
    else .inl (cy 0, 16, .inl f)
  else if q.1 = 8 then
    if q.2 = 0 then .inr (5, [.ref (ad 7 0), .ref (ad 0 0), .ref (ad 1 0), .ref (ad 2 0), .ref (ad 8 1), .int (f 5)])
    else if q.2 = 1 then .inr (2, [.ref (ad 8 2), .int (f 1), .int (f 2)])
    else .inl (cy 4, 4, rfs (fun k => some (ad (3 + k) 0)))
  else .inl (cy 0, 18, .inl f)
section EE
variable {cy : Nat → ClassId} {ad : Nat → Nat → Nat} {g i : Nat} {f : Nat → Int32}
theorem E_st (hg : g < 7) : E cy ad (g, 0) f = .inr (4, [.ref (ad g 1), .ref (ad g 2), .int (f 2), .int (f 3), .int (f 4), .int (f 5)]) := by simp [E, hg]
theorem E_ba (hg : g < 7) : E cy ad (g, 1) f = .inl (cy 2, 8, rfs (fun k => some (ad g (3 + k)))) := by simp [E, hg]
theorem E_qa (hg : g < 7) : E cy ad (g, 2) f = .inl (cy 3, 6, rfs (fun k => some (ad g (19 + k)))) := by simp [E, hg]
theorem E_bk (hg : g < 7) (hi : i < 8) : E cy ad (g, 3 + i) f = .inr (0, [.ref (ad g (11 + i)), .int (f 1), .int (f 2), .int (f 3), .int (f 4), .int (f 5), .int (f 6), .int (f 7), .int (f 8)]) := by
  have h1 : ¬ 3 + i = 0 := by omega
  have h2 : ¬ 3 + i = 1 := by omega
  have h3 : ¬ 3 + i = 2 := by omega
  have h4 : 3 + i < 11 := by omega
  have h5 : 3 + i + 8 = 11 + i := by omega
  simp only [E, hg, h1, h2, h3, h4, h5, if_true, if_false]
theorem E_va (hg : g < 7) (hi : i < 8) : E cy ad (g, 11 + i) f = .inl (cy 0, 16, .inl f) := by
  have h1 : ¬ 11 + i = 0 := by omega
  have h2 : ¬ 11 + i = 1 := by omega
  have h3 : ¬ 11 + i = 2 := by omega
  have h4 : ¬ 11 + i < 11 := by omega
  have h5 : 11 + i < 19 := by omega
  simp only [E, hg, h1, h2, h3, h4, h5, if_true, if_false]
theorem E_qu (hg : g < 7) : E cy ad (g, 19 + i) f = .inr (3, [.int (f 0), .int (f 1), .int (f 2), .int (f 3), .int (f 4), .int (f 5), .int (f 6), .int (f 7)]) := by
  have h1 : ¬ 19 + i = 0 := by omega
  have h2 : ¬ 19 + i = 1 := by omega
  have h3 : ¬ 19 + i = 2 := by omega
  have h4 : ¬ 19 + i < 11 := by omega
  have h5 : ¬ 19 + i < 19 := by omega
  simp only [E, hg, h1, h2, h3, h4, h5, if_true, if_false]
theorem E_tx : E cy ad (7, 0) f = .inr (1, [.ref (ad 7 1), .ref (ad 7 2), .int (f 2), .int (f 3), .int (f 4), .int (f 5), .int (f 6), .int (f 7)]) := by simp [E]
theorem E_tc : E cy ad (7, 1) f = .inl (cy 1, 80, .inl f) := by simp [E]
theorem E_tv : E cy ad (7, 2) f = .inl (cy 0, 16, .inl f) := by simp [E]
theorem E_mn : E cy ad (8, 0) f = .inr (5, [.ref (ad 7 0), .ref (ad 0 0), .ref (ad 1 0), .ref (ad 2 0), .ref (ad 8 1), .int (f 5)]) := by simp [E]
theorem E_hi : E cy ad (8, 1) f = .inr (2, [.ref (ad 8 2), .int (f 1), .int (f 2)]) := by simp [E]
theorem E_sa : E cy ad (8, 2) f = .inl (cy 4, 4, rfs (fun k => some (ad (3 + k) 0))) := by simp [E]
theorem E_ra : E cy ad (9, 0) f = .inl (cy 0, 18, .inl f) := by simp [E]
end EE
def wl (cy : Nat → ClassId) (ad : Nat → Nat → Nat) (M : MM) : va_W := vids.map (fun q => (ad q.1 q.2, E cy ad q (M q.1 q.2)))
def WH (D : va_G) (cy : Nat → ClassId) (ad : Nat → Nat → Nat) (M : MM) (H : Heap) : Prop := va_P D vwCl (wl cy ad M) H
def tyl (cy : Nat → ClassId) : List (ClassId × FieldType) := [(cy 0, .int), (cy 1, .char), (cy 2, .object RX0), (cy 3, .object RX3), (cy 4, .object RX4)]
def NX (U : State) : Prop := ∀ w ∈ NXL, va_Nw w U
def KD (D : va_G) (cy : Nat → ClassId) (U : State) : Prop := va_K D vwCl (tyl cy) U ∧ NX U
def AD (ad : Nat → Nat → Nat) : Nat → Prop := fun x => ∃ q ∈ vids, x = ad q.1 q.2
def CV (ad : Nat → Nat → Nat) : Prop := ∀ q ∈ vids, ∀ q2 ∈ vids, ad q.1 q.2 = ad q2.1 q2.2 → q = q2
theorem NX.warm {s U : State} (hW : s.WarmedH U.vm) (h : NX s) : NX U := fun w hw => by
  obtain ⟨a, i, x, o, rfl⟩ := NXL_nest w hw
  exact va_Nw.warmM hW (h _ hw)
theorem NX.same {u U : State} (hv : u.vm = U.vm) (h : NX u) : NX U := fun w hw => by
  obtain ⟨a, i, x, o, rfl⟩ := NXL_nest w hw
  exact va_Nw.same rfl hv (h _ hw)
theorem KD.warm {D : va_G} {cy : Nat → ClassId} {s U : State} (hW : s.WarmedH U.vm) (h : KD D cy s) : KD D cy U := ⟨va_K.moved hW.alike h.1, h.2.warm hW⟩
theorem wl_at {cy : Nat → ClassId} {ad : Nat → Nat → Nat} {M : MM} {g c : Nat} (h : (g, c) ∈ vids) : ∃ k : Nat, (wl cy ad M)[k]? = some (ad g c, E cy ad (g, c) (M g c)) ∧ vids[k]? = some (g, c) := by
  obtain ⟨k, hk⟩ := List.getElem?_of_mem h
  refine ⟨k, ?_, hk⟩
  unfold wl
  rw [List.getElem?_map, hk]
  rfl
theorem wl_D {cy : Nat → ClassId} {ad : Nat → Nat → Nat} {M : MM} (hcv : CV ad) : va_D (AD ad) (wl cy ad M) := by
  have key : ∀ (k : Nat) (q : Nat × va_E), (wl cy ad M)[k]? = some q → ∃ v, vids[k]? = some v ∧ q.1 = ad v.1 v.2 := by
    intro k q hk
    unfold wl at hk
    rw [List.getElem?_map] at hk
    cases hv : vids[k]? with
    | none => rw [hv] at hk; cases hk
    | some v => rw [hv] at hk; cases hk; exact ⟨v, rfl, rfl⟩
  refine ⟨fun i j p q hi hj hpq => ?_, fun k q hk => ?_⟩
  · obtain ⟨v, h1, h2⟩ := key i p hi
    obtain ⟨w, h3, h4⟩ := key j q hj
    have e : v = w := hcv v (List.mem_of_getElem? h1) w (List.mem_of_getElem? h3) (by rw [← h2, ← h4]; exact hpq)
    exact (List.getElem?_inj (List.getElem?_eq_some_iff.mp h1).1 vids_nd).mp (by rw [h1, h3, e])
  · obtain ⟨v, h1, h2⟩ := key k q hk
    exact ⟨v, List.mem_of_getElem? h1, h2⟩
theorem wl_set {cy : Nat → ClassId} {ad : Nat → Nat → Nat} {M : MM} {g c k : Nat} {f : Nat → Int32} (hk : vids[k]? = some (g, c)) : (wl cy ad M).set k (ad g c, E cy ad (g, c) f) = wl cy ad (gs M g (sc (M g) c f)) := by
  have hl : k < vids.length := (List.getElem?_eq_some_iff.mp hk).1
  apply List.ext_getElem?
  intro n
  by_cases hn : n = k
  · subst hn
    rw [List.getElem?_set_self (by unfold wl; rw [List.length_map]; exact hl)]
    unfold wl
    rw [List.getElem?_map, hk]
    simp [gs_at, sc_at]
  · rw [List.getElem?_set_ne (Ne.symm hn)]
    unfold wl
    rw [List.getElem?_map, List.getElem?_map]
    cases hv : vids[n]? with
    | none => rfl
    | some v =>
      have hne : v ≠ (g, c) := fun e => hn ((List.getElem?_inj (List.getElem?_eq_some_iff.mp hv).1 vids_nd).mp (by rw [hv, hk, e]))
      obtain ⟨g2, c2⟩ := v
      have e : gs M g (sc (M g) c f) g2 c2 = M g2 c2 := by
        by_cases h : g2 = g
        · subst h
          rw [gs_at, sc_ne (fun z => hne (by rw [z]))]
        · rw [gs_ne h]
      simp only [Option.map_some, e]
end
section
/-! ROWS over the world: an instruction's row turns W behind it into W at it -/
section WR
variable {p : Program} {l : Launch} {e : Env} {R : Room} {s : State} {m : MethodId} {args : Array Value} {below : List Frame} {meth : Method} {c : Code} {H : Heap} {locs : List Loc} {cells slots : Nat} {Q : State → Prop}
variable {cc : ByteArray} {pc : Nat} {ls : Array Slot} {rest : List Value} {D : va_G} {cy : Nat → ClassId} {ad : Nat → Nat → Nat} {M : MM} {g c' : Nat} {f : Nat → Int32}
theorem r_get (hx : p.tables.exec = Jvm.exec) (hb : c.code = cc) (hts : ∀ w ∈ TB, w.before args s = true) {own ref C : String} (hown : s.vm.findClass own = some m.cls) (hK : KD D cy s) (hw : WH D cy ad M H) (hq : (g, c') ∈ vids) (hf : M g c' = f) {ci N index : Nat} {fs : List Value} {T : u_T} (hE : E cy ad (g, c') f = .inr (ci, fs)) (hin : ∀ w ∈ u_ws C T N, w ∈ TB) (hc : vwCl[ci]? = some (C, T, N)) (k : Nat) (hk : k < N) (hl : Cond.fieldLink own index ref (T k).2.1 (T k).2.2.1 ∈ TB) (hsame : ref = (T k).1) {v : Value} (hv : fs[k]? = some v) (hdg : decode cc pc = .ok (.getfield index, 3))
    (kk : W p l e R s m args below meth c H locs cells slots Q (F0 m (pc + 3) ls (v :: rest))) : W p l e R s m args below meth c H locs cells slots Q (F0 m pc ls (.ref (ad g c') :: rest)) := by
  obtain ⟨n, h1, -⟩ := wl_at (cy := cy) (ad := ad) (M := M) hq
  rw [hf, hE] at h1
  exact va_get (D := D) hx hb hts hin hown hK.1 hw n h1 hc k hk (hts _ hl) (fun x hx => by rw [hsame]; exact hx) hv hdg kk
theorem r_put (hx : p.tables.exec = Jvm.exec) (hb : c.code = cc) (hts : ∀ w ∈ TB, w.before args s = true) {own ref C : String} (hown : s.vm.findClass own = some m.cls) (hK : KD D cy s) (hcv : CV ad) (hw : WH D cy ad M H) (hS : va_S (AD ad) s.heap H locs) (hq : (g, c') ∈ vids) (hf : M g c' = f) {ci N index : Nat} {fs : List Value} {T : u_T} (hE : E cy ad (g, c') f = .inr (ci, fs)) (hin : ∀ w ∈ u_ws C T N, w ∈ TB) (hc : vwCl[ci]? = some (C, T, N)) (ty0 : Nat → FieldType) (hty : ∀ k, k < N → parseFieldDescriptor (T k).2.2.1 = some (ty0 k)) (hnm : ∀ a, a < N → ∀ b, b < N → a ≠ b → (T a).2.1 ≠ (T b).2.1) (k : Nat) (hk : k < N) (hl : Cond.fieldLink own index ref (T k).2.1 (T k).2.2.1 ∈ TB) (hsame : ref = (T k).1) (hfin : (T k).2.2.2 = false) {v : Int32} (hn : narrow (ty0 k) (.int v) = .int v) (hfit : fits (ty0 k) (.int v) = true) (hlen : k < fs.length) (hE2 : E cy ad (g, c') (upd f k v) = .inr (ci, fs.set k (.int v))) {M2 : MM} (hM2 : gs M g (up (M g) c' k v) = M2) (hdg : decode cc pc = .ok (.putfield index, 3))
    (kk : ∀ (H1 : Heap) (locs1 : List Loc), WH D cy ad M2 H1 → va_S (AD ad) s.heap H1 locs1 → W p l e R s m args below meth c H1 locs1 cells slots Q (F0 m (pc + 3) ls rest)) : W p l e R s m args below meth c H locs cells slots Q (F0 m pc ls (.int v :: .ref (ad g c') :: rest)) := by
  obtain ⟨n, h1, h2⟩ := wl_at (cy := cy) (ad := ad) (M := M) hq
  rw [hf, hE] at h1
  refine va_put (D := D) (ty := ty0 k) hx hb hts hin ty0 hty hnm hown hK.1 hw (wl_D hcv) hS n h1 hc k hk (hts _ hl) (fun x hx => by rw [hsame]; exact hx) hfin (hty k hk) hn hfit hlen hdg (fun H1 locs1 hP hD hS1 => ?_)
  refine kk H1 locs1 ?_ hS1
  rw [← hE2, wl_set h2] at hP
  rw [← hM2, up_sc, hf]
  exact hP
theorem r_iald (hx : p.tables.exec = Jvm.exec) (hb : c.code = cc) (hK : KD D cy s) (hw : WH D cy ad M H) (hq : (g, c') ∈ vids) (hf : M g c' = f) {n : Nat} (hE : E cy ad (g, c') f = .inl (cy 0, n, .inl f)) {i : Int32} (hin : vp_in i n) (hdg : decode cc pc = .ok (.iaload, 1))
    (kk : W p l e R s m args below meth c H locs cells slots Q (F0 m (pc + 1) ls (.int (f i.toNatClampNeg) :: rest))) : W p l e R s m args below meth c H locs cells slots Q (F0 m pc ls (.int i :: .ref (ad g c') :: rest)) := by
  obtain ⟨k, h1, -⟩ := wl_at (cy := cy) (ad := ad) (M := M) hq
  rw [hf, hE] at h1
  exact va_iald (D := D) hx hb hK.1 hw k 0 h1 rfl hin hdg kk
theorem r_cald (hx : p.tables.exec = Jvm.exec) (hb : c.code = cc) (hK : KD D cy s) (hw : WH D cy ad M H) (hq : (g, c') ∈ vids) (hf : M g c' = f) {n : Nat} (hE : E cy ad (g, c') f = .inl (cy 1, n, .inl f)) {i : Int32} (hin : vp_in i n) (hdg : decode cc pc = .ok (.caload, 1))
    (kk : W p l e R s m args below meth c H locs cells slots Q (F0 m (pc + 1) ls (.int (f i.toNatClampNeg) :: rest))) : W p l e R s m args below meth c H locs cells slots Q (F0 m pc ls (.int i :: .ref (ad g c') :: rest)) := by
  obtain ⟨k, h1, -⟩ := wl_at (cy := cy) (ad := ad) (M := M) hq
  rw [hf, hE] at h1
  exact va_cald (D := D) hx hb hK.1 hw k 1 h1 rfl hin hdg kk
theorem r_aald (hx : p.tables.exec = Jvm.exec) (hb : c.code = cc) (hK : KD D cy s) (hw : WH D cy ad M H) (hq : (g, c') ∈ vids) {n t0 : Nat} {C : String} {fr : Nat → Option Nat} (ht : (tyl cy)[t0]? = some (cy t0, .object C)) (hE : E cy ad (g, c') (M g c') = .inl (cy t0, n, rfs fr)) {i : Int32} {v : Value} (hv : va_rf (fr i.toNatClampNeg) = v) (hin : vp_in i n) (hdg : decode cc pc = .ok (.aaload, 1))
    (kk : W p l e R s m args below meth c H locs cells slots Q (F0 m (pc + 1) ls (v :: rest))) : W p l e R s m args below meth c H locs cells slots Q (F0 m pc ls (.int i :: .ref (ad g c') :: rest)) := by
  obtain ⟨k, h1, -⟩ := wl_at (cy := cy) (ad := ad) (M := M) hq
  rw [hE] at h1
  subst hv
  exact va_aldq (D := D) hx hb hK.1 hw k t0 h1 ht hin hdg kk
theorem r_iast (hx : p.tables.exec = Jvm.exec) (hb : c.code = cc) (hK : KD D cy s) (hcv : CV ad) (hw : WH D cy ad M H) (hS : va_S (AD ad) s.heap H locs) (hq : (g, c') ∈ vids) (hf : M g c' = f) {n : Nat} (hE : ∀ f, E cy ad (g, c') f = .inl (cy 0, n, .inl f)) {i x : Int32} (hin : vp_in i n) {M2 : MM} (hM2 : gs M g (up (M g) c' i.toNatClampNeg x) = M2) (hdg : decode cc pc = .ok (.iastore, 1))
    (kk : ∀ (H1 : Heap) (locs1 : List Loc), WH D cy ad M2 H1 → va_S (AD ad) s.heap H1 locs1 → W p l e R s m args below meth c H1 locs1 cells slots Q (F0 m (pc + 1) ls rest)) : W p l e R s m args below meth c H locs cells slots Q (F0 m pc ls (.int x :: .int i :: .ref (ad g c') :: rest)) := by
  obtain ⟨k, h1, h2⟩ := wl_at (cy := cy) (ad := ad) (M := M) hq
  rw [hf, hE] at h1
  refine va_iast (D := D) hx hb hK.1 hw (wl_D hcv) hS k 0 h1 rfl hin hdg (fun H1 locs1 hP hD hS1 => ?_)
  refine kk H1 locs1 ?_ hS1
  rw [← hE, wl_set h2] at hP
  rw [← hM2, up_sc, hf]
  exact hP
theorem r_cast (hx : p.tables.exec = Jvm.exec) (hb : c.code = cc) (hK : KD D cy s) (hcv : CV ad) (hw : WH D cy ad M H) (hS : va_S (AD ad) s.heap H locs) (hq : (g, c') ∈ vids) (hf : M g c' = f) {n : Nat} (hE : ∀ f, E cy ad (g, c') f = .inl (cy 1, n, .inl f)) {i x : Int32} (hin : vp_in i n) {M2 : MM} (hM2 : gs M g (up (M g) c' i.toNatClampNeg (vp_nar .char x)) = M2) (hdg : decode cc pc = .ok (.castore, 1))
    (kk : ∀ (H1 : Heap) (locs1 : List Loc), WH D cy ad M2 H1 → va_S (AD ad) s.heap H1 locs1 → W p l e R s m args below meth c H1 locs1 cells slots Q (F0 m (pc + 1) ls rest)) : W p l e R s m args below meth c H locs cells slots Q (F0 m pc ls (.int x :: .int i :: .ref (ad g c') :: rest)) := by
  obtain ⟨k, h1, h2⟩ := wl_at (cy := cy) (ad := ad) (M := M) hq
  rw [hf, hE] at h1
  refine va_cast (D := D) hx hb hK.1 hw (wl_D hcv) hS k 1 h1 rfl hin hdg (fun H1 locs1 hP hD hS1 => ?_)
  refine kk H1 locs1 ?_ hS1
  rw [← hE, wl_set h2] at hP
  rw [← hM2, up_sc, hf]
  exact hP
/-- System.arraycopy between two int rows -/
theorem r_copy (hx : p.tables.exec = Jvm.exec) (hb : c.code = cc) (hts : ∀ w ∈ TB, w.before args s = true) (hml : c.maxLocals = ls.size) {own : String} {index : Nat} (hown : s.vm.findClass own = some m.cls) (hl : Cond.methodLink own index arraycopyName ∈ TB) (hnat : Cond.native arraycopyName ∈ TB) (hstat : Cond.static arraycopyName ∈ TB) (hini : Cond.initialized "java/lang/System" ∈ TB)
    (hK : KD D cy s) (hcv : CV ad) (hw : WH D cy ad M H) (hS : va_S (AD ad) s.heap H locs) {g2 c2 n0 n1 : Nat} {f2 : Nat → Int32} (hq : (g, c') ∈ vids) (hf : M g c' = f) (hE : ∀ f, E cy ad (g, c') f = .inl (cy 0, n1, .inl f)) (hq2 : (g2, c2) ∈ vids) (hf2 : M g2 c2 = f2) (hE2 : ∀ f, E cy ad (g2, c2) f = .inl (cy 0, n0, .inl f))
    {sp dp n : Int32} (h1 : ¬ sp < 0) (h2 : ¬ dp < 0) (h3 : ¬ n < 0) (h4 : sp.toNatClampNeg + n.toNatClampNeg ≤ n0) (h5 : dp.toNatClampNeg + n.toNatClampNeg ≤ n1)
    (hframes : 1 ≤ R.frames) (hwords : (rest.map fun v => v.category).sum + (nativeFrameWords "java/lang/System" "arraycopy" 5 + 11) ≤ R.locals) {M2 : MM} (hM2 : gs M g (sc (M g) c' (va_cpy f2 f sp.toNatClampNeg dp.toNatClampNeg n.toNatClampNeg)) = M2) (hdg : decode cc pc = .ok (.invokestatic index, 3))
    (kk : ∀ (H1 : Heap) (locs1 : List Loc), WH D cy ad M2 H1 → va_S (AD ad) s.heap H1 locs1 → W p l e R s m args below meth c H1 locs1 cells slots Q (F0 m (pc + 3) ls rest)) : W p l e R s m args below meth c H locs cells slots Q (F0 m pc ls (.int n :: .int dp :: .ref (ad g c') :: .int sp :: .ref (ad g2 c2) :: rest)) := by
  obtain ⟨k, q1, q2⟩ := wl_at (cy := cy) (ad := ad) (M := M) hq
  obtain ⟨k2, q3, q4⟩ := wl_at (cy := cy) (ad := ad) (M := M) hq2
  rw [hf, hE] at q1
  rw [hf2, hE2] at q3
  refine va_copyi (D := D) hx hb hml hown (hts _ hl) (hts _ hnat) (hts _ hstat) (hts _ hini) hK.1 hw (wl_D hcv) hS k2 k 0 0 q3 q1 rfl rfl rfl h1 h2 h3 h4 h5 (fun _ _ => rfl) hframes hwords hdg (fun H1 locs1 hP hD hS1 => ?_)
  refine kk H1 locs1 ?_ hS1
  rw [← hE, wl_set q2] at hP
  rw [← hM2]
  exact hP
theorem r_min (hx : p.tables.exec = Jvm.exec) (hb : c.code = cc) (hts : ∀ w ∈ TB, w.before args s = true) (hml : c.maxLocals = ls.size) {own : String} {index : Nat} (hown : s.vm.findClass own = some m.cls) (hl : Cond.methodLink own index Lib.Math.min.name ∈ TB) (hstat : Cond.static Lib.Math.min.name ∈ TB) (hini : Cond.initialized "java/lang/Math" ∈ TB) (hcode : Cond.code Lib.Math.min.name Lib.Math.min.code 2 (some .int) ∈ TB) (hframes : 1 ≤ R.frames) (hwords : (rest.map fun v => v.category).sum + 13 ≤ R.locals) (hc : cells ≤ R.cells) (hs : slots ≤ R.slots) {x y : Int32} (hdg : decode cc pc = .ok (.invokestatic index, 3))
    (kk : W p l e R s m args below meth c H locs cells slots Q (F0 m (pc + 3) ls (.int (mn x y) :: rest))) : W p l e R s m args below meth c H locs cells slots Q (F0 m pc ls (.int y :: .int x :: rest)) :=
  va_mmin hx hb hml hown (hts _ hl) (hts _ hstat) (hts _ hini) (hts _ hcode) hframes hwords hc hs hdg kk
theorem r_max (hx : p.tables.exec = Jvm.exec) (hb : c.code = cc) (hts : ∀ w ∈ TB, w.before args s = true) (hml : c.maxLocals = ls.size) {own : String} {index : Nat} (hown : s.vm.findClass own = some m.cls) (hl : Cond.methodLink own index Lib.Math.max.name ∈ TB) (hstat : Cond.static Lib.Math.max.name ∈ TB) (hini : Cond.initialized "java/lang/Math" ∈ TB) (hcode : Cond.code Lib.Math.max.name Lib.Math.max.code 2 (some .int) ∈ TB) (hframes : 1 ≤ R.frames) (hwords : (rest.map fun v => v.category).sum + 13 ≤ R.locals) (hc : cells ≤ R.cells) (hs : slots ≤ R.slots) {x y : Int32} (hdg : decode cc pc = .ok (.invokestatic index, 3))
    (kk : W p l e R s m args below meth c H locs cells slots Q (F0 m (pc + 3) ls (.int (mx x y) :: rest))) : W p l e R s m args below meth c H locs cells slots Q (F0 m pc ls (.int y :: .int x :: rest)) :=
  va_mmax hx hb hml hown (hts _ hl) (hts _ hstat) (hts _ hini) (hts _ hcode) hframes hwords hc hs hdg kk
/-- a switch's way out: none of its places -/
theorem tab_out {x : Int32} {lo n : Nat} (hn : lo + n < 2 ^ 31) (h : ∀ k, k < n → ¬ x = Int32.ofNat (lo + k)) : x.toInt < (lo : Int) ∨ (lo : Int) + (n : Int) - 1 < x.toInt := by
  by_cases h1 : x.toInt < lo
  · exact Or.inl h1
  · by_cases h2 : (lo : Int) + (n : Int) - 1 < x.toInt
    · exact Or.inr h2
    · exfalso
      have h3 : x.toInt.toNat - lo < n := by omega
      refine h (x.toInt.toNat - lo) h3 ?_
      have e : lo + (x.toInt.toNat - lo) = x.toInt.toNat := by omega
      rw [e]
      apply Int32.toInt_inj.mp
      have e2 : (Int32.ofNat x.toInt.toNat).toInt = (x.toInt.toNat : Int) := toInt_of rfl (by omega)
      rw [e2]
      omega
end WR
/-! CONTRACTS: what a method asks and answers, over the world -/
def PW (D : va_G) (cy : Nat → ClassId) (ad : Nat → Nat → Nat) (M : MM) (av : List Value) : Array Value → State → Prop := va_Pc av (fun U => WH D cy ad M U.heap ∧ KD D cy U)
def QI (D : va_G) (cy : Nat → ClassId) (ad : Nat → Nat → Nat) (r : Int32) (M : MM) : Array Value → State → Outcome → State → Prop := va_Qi (fun r' (_ : Unit) => r' = r) (fun _ t => WH D cy ad M t.heap) (AD ad)
def QV (D : va_G) (cy : Nat → ClassId) (ad : Nat → Nat → Nat) (M : MM) : Array Value → State → Outcome → State → Prop := va_Qv (fun _ : Unit => True) (fun _ t => WH D cy ad M t.heap) (AD ad)
theorem PW_blind {D : va_G} {cy : Nat → ClassId} {ad : Nat → Nat → Nat} {M : MM} {av : List Value} : FrameBlind (PW D cy ad M av) := fun a U g mk q => by
  obtain ⟨q1, q2, q3, q4⟩ := q
  exact ⟨q1, q2, va_K.moved (u := U) (U := U.calling g mk a) (Vm.Alike.refl U.vm) q3, NX.same (u := U) (U := U.calling g mk a) rfl q4⟩
theorem gV {own C : String} {idx n : Nat} {y : MethodName} {b : ByteArray} {ret : Option FieldType} (h1 : Cond.methodLink own idx y ∈ TB) (h2 : Cond.instanceMethod y ∈ TB) (h3 : Cond.selects C y y ∈ TB) (h4 : Cond.initialized C ∈ TB) (h5 : Cond.code y b n ret ∈ TB) : GoodIn TB (wsV own idx C y (.code y b n ret :: TB)) := by
  intro w hw
  have hm : w ∈ TB := by
    rcases List.mem_append.mp hw with h | h
    · simp only [List.mem_cons, List.not_mem_nil, or_false] at h
      rcases h with rfl | rfl | rfl | rfl
      · exact h1
      · exact h2
      · exact h3
      · exact h4
    · rcases List.mem_cons.mp h with rfl | h
      · exact h5
      · exact h
  exact ⟨hm, good_of_word (TB_good w hm)⟩
theorem gC {n : Nat} {y : MethodName} {b : ByteArray} {ret : Option FieldType} (h5 : Cond.code y b n ret ∈ TB) : GoodIn TB (.code y b n ret :: TB) := by
  intro w hw
  have hm : w ∈ TB := by
    rcases List.mem_cons.mp hw with rfl | h
    · exact h5
    · exact h
  exact ⟨hm, good_of_word (TB_good w hm)⟩
theorem gS {own : String} {idx n : Nat} {y : MethodName} {b : ByteArray} {ret : Option FieldType} (h1 : Cond.methodLink own idx y ∈ TB) (h2 : Cond.static y ∈ TB) (h4 : Cond.initialized own ∈ TB) (h5 : Cond.code y b n ret ∈ TB) : GoodIn TB (wsS own idx y (.code y b n ret :: TB)) := by
  intro w hw
  have hm : w ∈ TB := by
    rcases List.mem_append.mp hw with h | h
    · simp only [List.mem_cons, List.not_mem_nil, or_false] at h
      rcases h with rfl | rfl | rfl
      · exact h1
      · exact h2
      · exact h4
    · rcases List.mem_cons.mp h with rfl | h
      · exact h5
      · exact h
  exact ⟨hm, good_of_word (TB_good w hm)⟩
/-- what the tables say of a method -/
def cfV (C : String) (y : MethodName) (b : ByteArray) (nL : Nat) (ret : Option FieldType) (n : Nat) : Prop := (Cond.instanceMethod y ∈ TB ∧ Cond.selects C y y ∈ TB ∧ Cond.initialized C ∈ TB ∧ Cond.code y b nL ret ∈ TB) ∧ (y.cls = C ∧ y.cls ≠ "java/lang/invoke/MethodHandle" ∧ y.cls ≠ "java/lang/invoke/VarHandle" ∧ (parseMethodDescriptor y.desc).map (fun d => d.parameters.length) = some n)
def cfS (C : String) (y : MethodName) (b : ByteArray) (nL : Nat) (ret : Option FieldType) (n : Nat) : Prop := (Cond.static y ∈ TB ∧ Cond.initialized C ∈ TB ∧ Cond.code y b nL ret ∈ TB) ∧ (y.cls = C ∧ y.cls ≠ "java/lang/invoke/MethodHandle" ∧ y.cls ≠ "java/lang/invoke/VarHandle" ∧ (parseMethodDescriptor y.desc).map (fun d => d.parameters.length) = some n)
section WC
variable {p : Program} {l : Launch} {e : Env} {R : Room} {s : State} {m : MethodId} {args : Array Value} {below : List Frame} {meth : Method} {c : Code} {H : Heap} {locs : List Loc} {cells slots : Nat} {Q : State → Prop}
variable {cc : ByteArray} {pc : Nat} {ls : Array Slot} {rest st0 As : List Value} {D : va_G} {cy : Nat → ClassId} {ad : Nat → Nat → Nat} {M M2 : MM} {g c' : Nat} {A0 : Nat → Prop}
variable {y : MethodName} {bytes : ByteArray} {maxL nL n index : Nat} {ret : Option FieldType} {rm : Room} {own C : String} {r : Int32}
theorem r_recv (hK : KD D cy s) (hw : WH D cy ad M H) (hq : (g, c') ∈ vids) {ci N : Nat} {fs : List Value} {T : u_T} (hE : E cy ad (g, c') (M g c') = .inr (ci, fs)) (hc : vwCl[ci]? = some (C, T, N)) : ∃ cell : Cell, H[ad g c']? = some cell ∧ cell.vm.isStatics = false ∧ s.vm.findClass C = some cell.cls := by
  obtain ⟨n, h1, -⟩ := wl_at (cy := cy) (ad := ad) (M := M) hq
  rw [hE] at h1
  exact va_recv hK.1 hw hc h1
theorem c_vi (hx : p.tables.exec = Jvm.exec) (hb : c.code = cc) (hml : c.maxLocals = nL) (hown : s.vm.findClass own = some m.cls) (hts : ∀ w ∈ TB, w.before args s = true) (hK : KD D cy s) (hw : WH D cy ad M H) (hS : va_S A0 s.heap H locs) (hA : ∀ q, AD ad q → A0 q) {b : Nat} (hM : Met l y (.code y bytes maxL ret :: TB) rm (PW D cy ad M (.ref b :: As)) (QI D cy ad r M2) 0 0 (AD ad)) (cf : cfV C y bytes maxL ret n) (hl : Cond.methodLink own index y ∈ TB) (hrc : rm.cells = 0) (hrs : rm.slots = 0) (hR : rm.frames + 1 ≤ R.frames ∧ 8 + (maxL + 11) + rm.locals ≤ R.locals)
    (hrv : ∃ cell : Cell, H[b]? = some cell ∧ cell.vm.isStatics = false ∧ s.vm.findClass C = some cell.cls) (hn : As.length = n) (hls : ls.size = nL) (hst : st0 = As.reverse ++ .ref b :: rest) (hW : (rest.map fun v => v.category).sum ≤ 8) (hroom : cells + 0 ≤ R.cells ∧ slots + 0 ≤ R.slots) (hdg : decode cc pc = .ok (.invokevirtual index, 3))
    (kk : ∀ (H1 : Heap) (locs1 : List Loc), WH D cy ad M2 H1 → va_S A0 s.heap H1 locs1 → W p l e R s m args below meth c H1 locs1 cells slots Q (F0 m (pc + 3) ls (.int r :: rest))) : W p l e R s m args below meth c H locs cells slots Q (F0 m pc ls st0) := by
  obtain ⟨⟨i1, i2, i3, i4⟩, hd⟩ := cf
  refine va_calli (cells := cells) (slots := slots) (va_runV (As := As) (rest := rest) (Ts := TB) ⟨hx, hb, hml, hown, hts⟩ hM (cwV n hts (gV hl i1 i2 i3 i4) rfl hrc hrs hd hR) ⟨PW_blind, hrv, fun U hU hW => ⟨rfl, by rw [hU]; exact hw, hK.warm hW⟩⟩ rfl hn hls hst (lv_room hW) hdg hroom) hS (fun q _ h => hA q h) hA (fun r1 u t H1 locs1 ht hvm hr hB hz hk hS1 => ?_)
  have hr : r1 = r := hr
  subst hr
  exact kk H1 locs1 (by rw [← ht]; exact hB) hS1
theorem c_vv (hx : p.tables.exec = Jvm.exec) (hb : c.code = cc) (hml : c.maxLocals = nL) (hown : s.vm.findClass own = some m.cls) (hts : ∀ w ∈ TB, w.before args s = true) (hK : KD D cy s) (hw : WH D cy ad M H) (hS : va_S A0 s.heap H locs) (hA : ∀ q, AD ad q → A0 q) {b : Nat} (hM : Met l y (.code y bytes maxL ret :: TB) rm (PW D cy ad M (.ref b :: As)) (QV D cy ad M2) 0 0 (AD ad)) (cf : cfV C y bytes maxL ret n) (hl : Cond.methodLink own index y ∈ TB) (hrc : rm.cells = 0) (hrs : rm.slots = 0) (hR : rm.frames + 1 ≤ R.frames ∧ 8 + (maxL + 11) + rm.locals ≤ R.locals)
    (hrv : ∃ cell : Cell, H[b]? = some cell ∧ cell.vm.isStatics = false ∧ s.vm.findClass C = some cell.cls) (hn : As.length = n) (hls : ls.size = nL) (hst : st0 = As.reverse ++ .ref b :: rest) (hW : (rest.map fun v => v.category).sum ≤ 8) (hroom : cells + 0 ≤ R.cells ∧ slots + 0 ≤ R.slots) (hdg : decode cc pc = .ok (.invokevirtual index, 3))
    (kk : ∀ (H1 : Heap) (locs1 : List Loc), WH D cy ad M2 H1 → va_S A0 s.heap H1 locs1 → W p l e R s m args below meth c H1 locs1 cells slots Q (F0 m (pc + 3) ls rest)) : W p l e R s m args below meth c H locs cells slots Q (F0 m pc ls st0) := by
  obtain ⟨⟨i1, i2, i3, i4⟩, hd⟩ := cf
  refine va_callv (cells := cells) (slots := slots) (va_runV (As := As) (rest := rest) (Ts := TB) ⟨hx, hb, hml, hown, hts⟩ hM (cwV n hts (gV hl i1 i2 i3 i4) rfl hrc hrs hd hR) ⟨PW_blind, hrv, fun U hU hW => ⟨rfl, by rw [hU]; exact hw, hK.warm hW⟩⟩ rfl hn hls hst (lv_room hW) hdg hroom) hS (fun q _ h => hA q h) hA (fun u t H1 locs1 ht hvm hr hB hz hk hS1 => ?_)
  exact kk H1 locs1 (by rw [← ht]; exact hB) hS1
/-- a static method of the same class -/
theorem c_si (hx : p.tables.exec = Jvm.exec) (hb : c.code = cc) (hml : c.maxLocals = nL) (hown : s.vm.findClass own = some m.cls) (hts : ∀ w ∈ TB, w.before args s = true) (hK : KD D cy s) (hw : WH D cy ad M H) (hS : va_S A0 s.heap H locs) (hA : ∀ q, AD ad q → A0 q) (hM : Met l y (.code y bytes maxL ret :: TB) rm (PW D cy ad M As) (QI D cy ad r M2) 0 0 (AD ad)) (cf : cfS own y bytes maxL ret n) (hl : Cond.methodLink own index y ∈ TB) (hrc : rm.cells = 0) (hrs : rm.slots = 0) (hR : rm.frames + 1 ≤ R.frames ∧ 8 + (maxL + 11) + rm.locals ≤ R.locals)
    (hn : As.length = n) (hls : ls.size = nL) (hst : st0 = As.reverse ++ rest) (hW : (rest.map fun v => v.category).sum ≤ 8) (hroom : cells + 0 ≤ R.cells ∧ slots + 0 ≤ R.slots) (hdg : decode cc pc = .ok (.invokestatic index, 3))
    (kk : ∀ (H1 : Heap) (locs1 : List Loc), WH D cy ad M2 H1 → va_S A0 s.heap H1 locs1 → W p l e R s m args below meth c H1 locs1 cells slots Q (F0 m (pc + 3) ls (.int r :: rest))) : W p l e R s m args below meth c H locs cells slots Q (F0 m pc ls st0) := by
  obtain ⟨⟨i1, i3, i4⟩, hd⟩ := cf
  refine va_calli (cells := cells) (slots := slots) (va_runS (As := As) (rest := rest) (Ts := TB) ⟨hx, hb, hml, hown, hts⟩ hM (cwS n hts (gS hl i1 i3 i4) rfl hrc hrs hd hR) ⟨PW_blind, fun U hU hW => ⟨rfl, by rw [hU]; exact hw, hK.warm hW⟩⟩ rfl hn hls hst (lv_room hW) hdg hroom) hS (fun q _ h => hA q h) hA (fun r1 u t H1 locs1 ht hvm hr hB hz hk hS1 => ?_)
  have hr : r1 = r := hr
  subst hr
  exact kk H1 locs1 (by rw [← ht]; exact hB) hS1
/-- a private static method of a nest mate -/
theorem c_sn (hx : p.tables.exec = Jvm.exec) (hb : c.code = cc) (hml : c.maxLocals = nL) (hown : s.vm.findClass own = some m.cls) (hts : ∀ w ∈ TB, w.before args s = true) (hK : KD D cy s) (hw : WH D cy ad M H) (hS : va_S A0 s.heap H locs) (hA : ∀ q, AD ad q → A0 q) (hM : Met l y (.code y bytes maxL ret :: TB) rm (PW D cy ad M As) (QI D cy ad r M2) 0 0 (AD ad)) {host : String} (cf : cfS C y bytes maxL ret n) (hl : Cond.methodLinkNest own index y host ∈ NXL) (hrc : rm.cells = 0) (hrs : rm.slots = 0) (hR : rm.frames + 1 ≤ R.frames ∧ 8 + (maxL + 11) + rm.locals ≤ R.locals)
    (hn : As.length = n) (hls : ls.size = nL) (hst : st0 = As.reverse ++ rest) (hW : (rest.map fun v => v.category).sum ≤ 8) (hroom : cells + 0 ≤ R.cells ∧ slots + 0 ≤ R.slots) (hdg : decode cc pc = .ok (.invokestatic index, 3))
    (kk : ∀ (H1 : Heap) (locs1 : List Loc), WH D cy ad M2 H1 → va_S A0 s.heap H1 locs1 → W p l e R s m args below meth c H1 locs1 cells slots Q (F0 m (pc + 3) ls (.int r :: rest))) : W p l e R s m args below meth c H locs cells slots Q (F0 m pc ls st0) := by
  obtain ⟨⟨i1, i3, i4⟩, hC, hd⟩ := cf
  subst hC
  refine va_calli (cells := cells) (slots := slots) (va_runSN (As := As) (rest := rest) (Ts := TB) ⟨hx, hb, hml, hown, hts⟩ hM ⟨va_cnB n hts (gC i4) rfl hrc hrs (hK.2 _ hl) (hts _ i3) hd hR, hts _ i1, trivial⟩ ⟨PW_blind, fun U hU hW => ⟨rfl, by rw [hU]; exact hw, hK.warm hW⟩⟩ rfl hn hls hst (lv_room hW) hdg hroom) hS (fun q _ h => hA q h) hA (fun r1 u t H1 locs1 ht hvm hr hB hz hk hS1 => ?_)
  have hr : r1 = r := hr
  subst hr
  exact kk H1 locs1 (by rw [← ht]; exact hB) hS1
/-- from a place of a method, with this memory, these locals, this stack -/
def JL (p : Program) (l : Launch) (e : Env) (R : Room) (s : State) (m : MethodId) (args : Array Value) (below : List Frame) (meth : Method) (c : Code) (D : va_G) (cy : Nat → ClassId) (ad : Nat → Nat → Nat) (Q : State → Prop) (M : MM) (nL : Nat) (lv : List (Nat × Value)) (pc : Nat) (st : List Value) : Prop :=
  ∀ (H : Heap) (locs : List Loc), WH D cy ad M H → va_S (AD ad) s.heap H locs → ∀ ls : Array Slot, lv_has ls nL lv → W p l e R s m args below meth c H locs 0 0 Q (F0 m pc ls st)
/-- a method's entry -/
theorem m_in {av : List Value} {Qc : Array Value → State → Outcome → State → Prop} (hy : plainName y.cls = true) (hml : (lg_sl av).length ≤ maxL) (body : ∀ (p : Program) (e : Env) (s : State) (m : MethodId) (args : Array Value) (below : List Frame) (meth : Method) (c : Code), (p.tables.exec = Jvm.exec ∧ c.code = bytes ∧ meth.sig.returnType = ret ∧ c.maxLocals = maxL ∧ s.vm.findClass y.cls = some m.cls ∧ (∀ w ∈ TB, w.before args s = true) ∧ KD D cy s ∧ meth.locks = false) → WH D cy ad M s.heap → va_S (AD ad) s.heap s.heap [] → ∀ ls : Array Slot, lv_has ls maxL (lv_args 0 av) → W p l e rm s m args below meth c s.heap [] 0 0 (MQ below Qc args s 0 0 (AD ad)) (F0 m 0 ls [])) : Met l y (.code y bytes maxL ret :: TB) rm (PW D cy ad M av) Qc 0 0 (AD ad) := by
  refine Met.ofW (cc := bytes) (maxL := maxL) (ret := ret) hy rfl ?_
  intro p e s m args below meth c s₁ B hml0 hv
  obtain ⟨rfl, hP, hK⟩ := hv
  have hts := atoms_spec (ws := .code y bytes maxL ret :: TB) B.pre
  have hl := lv_entry av (n := maxL) hml
  rw [lg_entry_eq]
  exact body p e s m _ below meth c ⟨B.exec, B.bytes, B.returns, hml0, findClass_of_methodNamed B.named, fun w hw => hts w (List.mem_cons_of_mem _ hw), hK, B.notSynchronized⟩ hP va_S.rf _ hl
theorem e_i {v : Int32} (hx : p.tables.exec = Jvm.exec) (hb : c.code = cc) (hr : meth.sig.returnType = some .int) (hlk : meth.locks = false) (hw : WH D cy ad M H) (hS : va_S (AD ad) s.heap H locs) (er : v = r) (eM : M = M2) (hdg : decode cc pc = .ok (.ireturn, 1)) : W p l e R s m args below meth c H locs cells slots (MQ below (QI D cy ad r M2) args s cells slots (AD ad)) (F0 m pc ls [.int v]) := by
  subst er
  subst eM
  exact W.iret hx hb hr (fun t ht hW => ⟨⟨v, (), rfl, rfl, by show WH _ _ _ _ t.heap; rw [ht]; exact hw⟩, hS.F ht⟩) hS.2.2 hdg hlk
theorem e_z {v : Int32} (hx : p.tables.exec = Jvm.exec) (hb : c.code = cc) (hr : meth.sig.returnType = some .boolean) (hlk : meth.locks = false) (hz : v = 0 ∨ v = 1) (hw : WH D cy ad M H) (hS : va_S (AD ad) s.heap H locs) (er : v = r) (eM : M = M2) (hdg : decode cc pc = .ok (.ireturn, 1)) : W p l e R s m args below meth c H locs cells slots (MQ below (QI D cy ad r M2) args s cells slots (AD ad)) (F0 m pc ls [.int v]) := by
  subst er
  subst eM
  exact W.zret hx hb hr (nar_z hz) (fun t ht hW => ⟨⟨v, (), rfl, rfl, by show WH _ _ _ _ t.heap; rw [ht]; exact hw⟩, hS.F ht⟩) hS.2.2 hdg hlk
theorem e_v (hx : p.tables.exec = Jvm.exec) (hb : c.code = cc) (hr : meth.sig.returnType = none) (hlk : meth.locks = false) (hw : WH D cy ad M H) (hS : va_S (AD ad) s.heap H locs) (eM : M = M2) (hdg : decode cc pc = .ok (.return_, 1)) : W p l e R s m args below meth c H locs cells slots (MQ below (QV D cy ad M2) args s cells slots (AD ad)) (F0 m pc ls []) := by
  subst eM
  exact W.vret hx hb hr (fun t ht hW => ⟨⟨(), rfl, trivial, by show WH _ _ _ _ t.heap; rw [ht]; exact hw⟩, hS.F ht⟩) hS.2.2 hdg hlk
end WC
/-! WITH A SCRIPT: a method of the law that reads its script; the script is an old row that nobody writes -/
def PX (D : va_G) (cy : Nat → ClassId) (ad : Nat → Nat → Nat) (M : MM) (b L : Nat) (xs : Nat → Int32) (av : List Value) : Array Value → State → Prop := va_Pc av (fun U => (WH D cy ad M U.heap ∧ KD D cy U) ∧ va_X b L xs U U.heap ∧ b < U.heap.size)
theorem PX_blind {D : va_G} {cy : Nat → ClassId} {ad : Nat → Nat → Nat} {M : MM} {b L : Nat} {xs : Nat → Int32} {av : List Value} : FrameBlind (PX D cy ad M b L xs av) := fun a U g mk q => by
  obtain ⟨q1, ⟨q2, q3, q4⟩, q5, q6⟩ := q
  exact ⟨q1, ⟨q2, va_K.moved (u := U) (U := U.calling g mk a) (Vm.Alike.refl U.vm) q3, NX.same (u := U) (U := U.calling g mk a) rfl q4⟩, va_X.moved (u := U) (U := U.calling g mk a) (Vm.Alike.refl U.vm) q5, q6⟩
section WX
variable {p : Program} {l : Launch} {e : Env} {R : Room} {s : State} {m : MethodId} {args : Array Value} {below : List Frame} {meth : Method} {c : Code} {H : Heap} {locs : List Loc} {cells slots : Nat} {Q : State → Prop}
variable {cc : ByteArray} {pc : Nat} {ls : Array Slot} {rest st0 As : List Value} {D : va_G} {cy : Nat → ClassId} {ad : Nat → Nat → Nat} {M M2 : MM} {g c' : Nat} {A0 : Nat → Prop} {f : Nat → Int32}
variable {y : MethodName} {bytes : ByteArray} {maxL nL n index : Nat} {ret : Option FieldType} {rm : Room} {own C : String} {r : Int32}
/-- a static method of the law that reads the script -/
theorem c_six (hx : p.tables.exec = Jvm.exec) (hb : c.code = cc) (hml : c.maxLocals = nL) (hown : s.vm.findClass own = some m.cls) (hts : ∀ w ∈ TB, w.before args s = true) (hK : KD D cy s) (hw : WH D cy ad M H) (hS : va_S A0 s.heap H locs) (hA : ∀ q, AD ad q → A0 q) {b L : Nat} {xs : Nat → Int32} (hX : va_X b L xs s s.heap) (hbl : b < s.heap.size) (hbA : ¬ A0 b) (hM : Met l y (.code y bytes maxL ret :: TB) rm (PX D cy ad M b L xs As) (QI D cy ad r M2) 0 0 (AD ad)) (cf : cfS own y bytes maxL ret n) (hl : Cond.methodLink own index y ∈ TB) (hrc : rm.cells = 0) (hrs : rm.slots = 0) (hR : rm.frames + 1 ≤ R.frames ∧ 8 + (maxL + 11) + rm.locals ≤ R.locals)
    (hn : As.length = n) (hls : ls.size = nL) (hst : st0 = As.reverse ++ rest) (hW : (rest.map fun v => v.category).sum ≤ 8) (hroom : cells + 0 ≤ R.cells ∧ slots + 0 ≤ R.slots) (hdg : decode cc pc = .ok (.invokestatic index, 3))
    (kk : ∀ (H1 : Heap) (locs1 : List Loc), WH D cy ad M2 H1 → va_S A0 s.heap H1 locs1 → W p l e R s m args below meth c H1 locs1 cells slots Q (F0 m (pc + 3) ls (.int r :: rest))) : W p l e R s m args below meth c H locs cells slots Q (F0 m pc ls st0) := by
  obtain ⟨⟨i1, i3, i4⟩, hd⟩ := cf
  have hXH : va_X b L xs s H := hX.kept (hS.2.1 b hbl hbA)
  have hbH : b < H.size := Nat.lt_of_lt_of_le hbl hS.1
  refine va_calli (cells := cells) (slots := slots) (va_runS (As := As) (rest := rest) (Ts := TB) ⟨hx, hb, hml, hown, hts⟩ hM (cwS n hts (gS hl i1 i3 i4) rfl hrc hrs hd hR) ⟨PX_blind, fun U hU hW => ⟨rfl, ⟨by rw [hU]; exact hw, hK.warm hW⟩, by rw [hU]; exact hXH.moved hW.alike, by rw [hU]; exact hbH⟩⟩ rfl hn hls hst (lv_room hW) hdg hroom) hS (fun q _ h => hA q h) hA (fun r1 u t H1 locs1 ht hvm hr hB hz hk hS1 => ?_)
  have hr : r1 = r := hr
  subst hr
  exact kk H1 locs1 (by rw [← ht]; exact hB) hS1
theorem m_inx {av : List Value} {Qc : Array Value → State → Outcome → State → Prop} {b L : Nat} {xs : Nat → Int32} (hy : plainName y.cls = true) (hml : (lg_sl av).length ≤ maxL) (body : ∀ (p : Program) (e : Env) (s : State) (m : MethodId) (args : Array Value) (below : List Frame) (meth : Method) (c : Code), (p.tables.exec = Jvm.exec ∧ c.code = bytes ∧ meth.sig.returnType = ret ∧ c.maxLocals = maxL ∧ s.vm.findClass y.cls = some m.cls ∧ (∀ w ∈ TB, w.before args s = true) ∧ KD D cy s ∧ meth.locks = false) → WH D cy ad M s.heap → va_X b L xs s s.heap → b < s.heap.size → va_S (AD ad) s.heap s.heap [] → ∀ ls : Array Slot, lv_has ls maxL (lv_args 0 av) → W p l e rm s m args below meth c s.heap [] 0 0 (MQ below Qc args s 0 0 (AD ad)) (F0 m 0 ls [])) : Met l y (.code y bytes maxL ret :: TB) rm (PX D cy ad M b L xs av) Qc 0 0 (AD ad) := by
  refine Met.ofW (cc := bytes) (maxL := maxL) (ret := ret) hy rfl ?_
  intro p e s m args below meth c s₁ B hml0 hv
  obtain ⟨rfl, ⟨hP, hK⟩, hX, hbl⟩ := hv
  have hts := atoms_spec (ws := .code y bytes maxL ret :: TB) B.pre
  have hl := lv_entry av (n := maxL) hml
  rw [lg_entry_eq]
  exact body p e s m _ below meth c ⟨B.exec, B.bytes, B.returns, hml0, findClass_of_methodNamed B.named, fun w hw => hts w (List.mem_cons_of_mem _ hw), hK, B.notSynchronized⟩ hP hX hbl va_S.rf _ hl
/-- a store into a row, what may be written being more than the world -/
theorem r_iastA (hx : p.tables.exec = Jvm.exec) (hb : c.code = cc) (hK : KD D cy s) (hcv : CV ad) (hw : WH D cy ad M H) (hA : ∀ q, AD ad q → A0 q) (hS : va_S A0 s.heap H locs) (hq : (g, c') ∈ vids) (hf : M g c' = f) {n : Nat} (hE : ∀ f, E cy ad (g, c') f = .inl (cy 0, n, .inl f)) {i x : Int32} (hin : vp_in i n) {M2 : MM} (hM2 : gs M g (up (M g) c' i.toNatClampNeg x) = M2) (hdg : decode cc pc = .ok (.iastore, 1))
    (kk : ∀ (H1 : Heap) (locs1 : List Loc), WH D cy ad M2 H1 → va_S A0 s.heap H1 locs1 → W p l e R s m args below meth c H1 locs1 cells slots Q (F0 m (pc + 1) ls rest)) : W p l e R s m args below meth c H locs cells slots Q (F0 m pc ls (.int x :: .int i :: .ref (ad g c') :: rest)) := by
  obtain ⟨k, h1, h2⟩ := wl_at (cy := cy) (ad := ad) (M := M) hq
  rw [hf, hE] at h1
  refine va_iast (D := D) hx hb hK.1 hw (⟨(wl_D hcv).1, fun k q hk => hA _ ((wl_D hcv).2 k q hk)⟩ : va_D A0 _) hS k 0 h1 rfl hin hdg (fun H1 locs1 hP hD hS1 => ?_)
  refine kk H1 locs1 ?_ hS1
  rw [← hE, wl_set h2] at hP
  rw [← hM2, up_sc, hf]
  exact hP
end WX
end
section
theorem cf_X0_copyFrom : cfV RX0 yX0_copyFrom cX0_copyFrom 2 none 1 := ⟨⟨k_240, k_241, k_4, k_242⟩, by decide +kernel⟩
def f_X0_copyFrom (m : SM) (mz : SM) (i : Nat) (i2 : Nat) : Option (Int32 × SM) :=
  lt1 (sc m (11 + i) (va_cpy (mz (11 + i2)) (m (11 + i)) 0 0 16)) fun m2 => lt1 (up m2 (3 + i) 1 (mz (3 + i2) 1)) fun m4 => lt1 (up m4 (3 + i) 2 (mz (3 + i2) 2)) fun m6 => lt1 (up m6 (3 + i) 3 (mz (3 + i2) 3)) fun m8 => lt1 (up m8 (3 + i) 4 (mz (3 + i2) 4)) fun m10 => lt1 (up m10 (3 + i) 5 (mz (3 + i2) 5)) fun m12 => lt1 (up m12 (3 + i) 6 (mz (3 + i2) 6)) fun m14 => lt1 (up m14 (3 + i) 7 (mz (3 + i2) 7)) fun m16 => lt1 (up m16 (3 + i) 8 (mz (3 + i2) 8)) fun m18 => some (0, m18)
set_option maxHeartbeats 4000000 in
set_option maxRecDepth 100000 in
theorem c_X0_copyFrom {l : Launch} {D : va_G} {cy : Nat → ClassId} {ad : Nat → Nat → Nat} (hcv : CV ad) {g : Nat} (hg : g < 7) {g2 : Nat} (hg2 : g2 < 7) {i : Nat} (hi : i < 8) {i2 : Nat} (hi2 : i2 < 8) {M0 : MM} {m : SM} (hm : M0 g = m) (hne : g2 ≠ g) {mz : SM} (hm2 : M0 g2 = mz) {r : Int32} {x : SM} (h : f_X0_copyFrom m mz i i2 = some (r, x)) : Met l yX0_copyFrom (.code yX0_copyFrom cX0_copyFrom 2 none :: TB) ({ frames := 1, cells := 0, slots := 0, locals := 60 } : Room) (PW D cy ad M0 [.ref (ad g (3 + i)), .ref (ad g2 (3 + i2))]) (QV D cy ad (gs M0 g x)) 0 0 (AD ad) := by
  refine m_in (by decide +kernel) (Nat.le_of_ble_eq_true rfl) ?_
  intro p e s md args below meth c hC hw hS ls hl
  obtain ⟨hx, hb, hr, hml, hown, hts, hK, hlk⟩ := hC
  have hl : lv_has ls 2 [(0, .ref (ad g (3 + i))), (1, .ref (ad g2 (3 + i2)))] := hl
  rw [← gs_same hm] at hw
  unfold f_X0_copyFrom at h
  have main : JL p l e ({ frames := 1, cells := 0, slots := 0, locals := 60 } : Room) s md args below meth c D cy ad (MQ below (QV D cy ad (gs M0 g x)) args s 0 0 (AD ad)) (gs M0 g m) 2 [(0, .ref (ad g (3 + i))), (1, .ref (ad g2 (3 + i2)))] 0 [] := by
    intro H locs hw hS ls hl
    refine lv_aload_n hx hb dX0_copyFrom_0 rfl (lv_at hl 1 rfl) ?_
    refine r_get hx hb hts hown hK hw (v_bk hg2 hi2) (gs_nec hne hm2) (E_bk hg2 hi2) inX0 rfl 0 (by decide) k_72 rfl rfl dX0_copyFrom_1 ?_
    refine lv_iconst (v := nI 0) hx hb dX0_copyFrom_4 (by decide) ?_
    refine lv_aload_n hx hb dX0_copyFrom_5 rfl (lv_at hl 0 rfl) ?_
    refine r_get hx hb hts hown hK hw (v_bk hg hi) gs_atc (E_bk hg hi) inX0 rfl 0 (by decide) k_72 rfl rfl dX0_copyFrom_6 ?_
    refine lv_iconst (v := nI 0) hx hb dX0_copyFrom_9 (by decide) ?_
    refine lv_bipush (v := nI 16) hx hb dX0_copyFrom_10 (by decide) ?_
    obtain ⟨m2, e1, h⟩ := t_lt h
    refine r_copy hx hb hts (hml.trans hl.1.symm) hown k_243 k_245 k_244 k_7 hK hcv hw hS (v_va hg hi) gs_atc (fun _ => (E_va hg hi)) (v_va hg2 hi2) (gs_nec hne hm2) (fun _ => (E_va hg2 hi2)) (by decide) (by decide) (by decide) (by decide) (by decide) (Nat.le_of_ble_eq_true rfl) (by decide) (gs_sc e1) dX0_copyFrom_12 (fun H locs hw hS => ?_)
    refine lv_aload_n hx hb dX0_copyFrom_15 rfl (lv_at hl 0 rfl) ?_
    refine lv_aload_n hx hb dX0_copyFrom_16 rfl (lv_at hl 1 rfl) ?_
    refine r_get hx hb hts hown hK hw (v_bk hg2 hi2) (gs_nec hne hm2) (E_bk hg2 hi2) inX0 rfl 1 (by decide) k_74 rfl rfl dX0_copyFrom_17 ?_
    obtain ⟨m4, e3, h⟩ := t_lt h
    refine r_put hx hb hts hown hK hcv hw hS (v_bk hg hi) gs_atc (E_bk hg hi) inX0 rfl tyX0 tyX0_ok nmX0 1 (by decide) k_74 rfl rfl rfl rfl (Nat.le_of_ble_eq_true rfl) (E_bk hg hi) (gs_up e3) dX0_copyFrom_20 (fun H locs hw hS => ?_)
    refine lv_aload_n hx hb dX0_copyFrom_23 rfl (lv_at hl 0 rfl) ?_
    refine lv_aload_n hx hb dX0_copyFrom_24 rfl (lv_at hl 1 rfl) ?_
    refine r_get hx hb hts hown hK hw (v_bk hg2 hi2) (gs_nec hne hm2) (E_bk hg2 hi2) inX0 rfl 2 (by decide) k_77 rfl rfl dX0_copyFrom_25 ?_
    obtain ⟨m6, e5, h⟩ := t_lt h
    refine r_put hx hb hts hown hK hcv hw hS (v_bk hg hi) gs_atc (E_bk hg hi) inX0 rfl tyX0 tyX0_ok nmX0 2 (by decide) k_77 rfl rfl rfl rfl (Nat.le_of_ble_eq_true rfl) (E_bk hg hi) (gs_up e5) dX0_copyFrom_28 (fun H locs hw hS => ?_)
    refine lv_aload_n hx hb dX0_copyFrom_31 rfl (lv_at hl 0 rfl) ?_
    refine lv_aload_n hx hb dX0_copyFrom_32 rfl (lv_at hl 1 rfl) ?_
    refine r_get hx hb hts hown hK hw (v_bk hg2 hi2) (gs_nec hne hm2) (E_bk hg2 hi2) inX0 rfl 3 (by decide) k_81 rfl rfl dX0_copyFrom_33 ?_
    obtain ⟨m8, e7, h⟩ := t_lt h
    refine r_put hx hb hts hown hK hcv hw hS (v_bk hg hi) gs_atc (E_bk hg hi) inX0 rfl tyX0 tyX0_ok nmX0 3 (by decide) k_81 rfl rfl rfl rfl (Nat.le_of_ble_eq_true rfl) (E_bk hg hi) (gs_up e7) dX0_copyFrom_36 (fun H locs hw hS => ?_)
    refine lv_aload_n hx hb dX0_copyFrom_39 rfl (lv_at hl 0 rfl) ?_
    refine lv_aload_n hx hb dX0_copyFrom_40 rfl (lv_at hl 1 rfl) ?_
    refine r_get hx hb hts hown hK hw (v_bk hg2 hi2) (gs_nec hne hm2) (E_bk hg2 hi2) inX0 rfl 4 (by decide) k_85 rfl rfl dX0_copyFrom_41 ?_
    obtain ⟨m10, e9, h⟩ := t_lt h
    refine r_put hx hb hts hown hK hcv hw hS (v_bk hg hi) gs_atc (E_bk hg hi) inX0 rfl tyX0 tyX0_ok nmX0 4 (by decide) k_85 rfl rfl rfl rfl (Nat.le_of_ble_eq_true rfl) (E_bk hg hi) (gs_up e9) dX0_copyFrom_44 (fun H locs hw hS => ?_)
    refine lv_aload_n hx hb dX0_copyFrom_47 rfl (lv_at hl 0 rfl) ?_
    refine lv_aload_n hx hb dX0_copyFrom_48 rfl (lv_at hl 1 rfl) ?_
    refine r_get hx hb hts hown hK hw (v_bk hg2 hi2) (gs_nec hne hm2) (E_bk hg2 hi2) inX0 rfl 5 (by decide) k_88 rfl rfl dX0_copyFrom_49 ?_
    obtain ⟨m12, e11, h⟩ := t_lt h
    refine r_put hx hb hts hown hK hcv hw hS (v_bk hg hi) gs_atc (E_bk hg hi) inX0 rfl tyX0 tyX0_ok nmX0 5 (by decide) k_88 rfl rfl rfl rfl (Nat.le_of_ble_eq_true rfl) (E_bk hg hi) (gs_up e11) dX0_copyFrom_52 (fun H locs hw hS => ?_)
    refine lv_aload_n hx hb dX0_copyFrom_55 rfl (lv_at hl 0 rfl) ?_
    refine lv_aload_n hx hb dX0_copyFrom_56 rfl (lv_at hl 1 rfl) ?_
    refine r_get hx hb hts hown hK hw (v_bk hg2 hi2) (gs_nec hne hm2) (E_bk hg2 hi2) inX0 rfl 6 (by decide) k_91 rfl rfl dX0_copyFrom_57 ?_
    obtain ⟨m14, e13, h⟩ := t_lt h
    refine r_put hx hb hts hown hK hcv hw hS (v_bk hg hi) gs_atc (E_bk hg hi) inX0 rfl tyX0 tyX0_ok nmX0 6 (by decide) k_91 rfl rfl rfl rfl (Nat.le_of_ble_eq_true rfl) (E_bk hg hi) (gs_up e13) dX0_copyFrom_60 (fun H locs hw hS => ?_)
    refine lv_aload_n hx hb dX0_copyFrom_63 rfl (lv_at hl 0 rfl) ?_
    refine lv_aload_n hx hb dX0_copyFrom_64 rfl (lv_at hl 1 rfl) ?_
    refine r_get hx hb hts hown hK hw (v_bk hg2 hi2) (gs_nec hne hm2) (E_bk hg2 hi2) inX0 rfl 7 (by decide) k_94 rfl rfl dX0_copyFrom_65 ?_
    obtain ⟨m16, e15, h⟩ := t_lt h
    refine r_put hx hb hts hown hK hcv hw hS (v_bk hg hi) gs_atc (E_bk hg hi) inX0 rfl tyX0 tyX0_ok nmX0 7 (by decide) k_94 rfl rfl rfl rfl (Nat.le_of_ble_eq_true rfl) (E_bk hg hi) (gs_up e15) dX0_copyFrom_68 (fun H locs hw hS => ?_)
    refine lv_aload_n hx hb dX0_copyFrom_71 rfl (lv_at hl 0 rfl) ?_
    refine lv_aload_n hx hb dX0_copyFrom_72 rfl (lv_at hl 1 rfl) ?_
    refine r_get hx hb hts hown hK hw (v_bk hg2 hi2) (gs_nec hne hm2) (E_bk hg2 hi2) inX0 rfl 8 (by decide) k_95 rfl rfl dX0_copyFrom_73 ?_
    obtain ⟨m18, e17, h⟩ := t_lt h
    refine r_put hx hb hts hown hK hcv hw hS (v_bk hg hi) gs_atc (E_bk hg hi) inX0 rfl tyX0 tyX0_ok nmX0 8 (by decide) k_95 rfl rfl rfl rfl (Nat.le_of_ble_eq_true rfl) (E_bk hg hi) (gs_up e17) dX0_copyFrom_76 (fun H locs hw hS => ?_)
    have e1 := (t_ret h).1
    have e2 := (t_ret h).2
    exact e_v hx hb hr hlk hw hS (by rw [e2]) dX0_copyFrom_79
  exact main _ _ hw hS ls hl

theorem cf_X0_readRow : cfV RX0 yX0_readRow cX0_readRow 2 (some .int) 0 := ⟨⟨k_329, k_330, k_4, k_331⟩, by decide +kernel⟩
def f_X0_readRow (m : SM) (i : Nat) : Option (Int32 × SM) :=
  (if (m (3 + i) 5) < (m (3 + i) 4) then gd (m (3 + i) 5) 16 (lt1 (up m (3 + i) 5 ((m (3 + i) 5) + (nI 1))) fun m4 => lt1 (up m4 (3 + i) 6 ((m4 (3 + i) 6) + (m (11 + i) (m (3 + i) 5).toNatClampNeg))) fun m6 => lt1 (up m6 (3 + i) 7 (mn (m6 (3 + i) 7) (m (11 + i) (m (3 + i) 5).toNatClampNeg))) fun m8 => lt1 (up m8 (3 + i) 8 (mx (m8 (3 + i) 8) (m (11 + i) (m (3 + i) 5).toNatClampNeg))) fun m10 => some ((m (11 + i) (m (3 + i) 5).toNatClampNeg), m10)) else some ((-5 : Int32), m))
set_option maxHeartbeats 4000000 in
set_option maxRecDepth 100000 in
theorem c_X0_readRow {l : Launch} {D : va_G} {cy : Nat → ClassId} {ad : Nat → Nat → Nat} (hcv : CV ad) {g : Nat} (hg : g < 7) {i : Nat} (hi : i < 8) {M0 : MM} {m : SM} (hm : M0 g = m) {r : Int32} {x : SM} (h : f_X0_readRow m i = some (r, x)) : Met l yX0_readRow (.code yX0_readRow cX0_readRow 2 (some .int) :: TB) ({ frames := 1, cells := 0, slots := 0, locals := 21 } : Room) (PW D cy ad M0 [.ref (ad g (3 + i))]) (QI D cy ad r (gs M0 g x)) 0 0 (AD ad) := by
  refine m_in (by decide +kernel) (Nat.le_of_ble_eq_true rfl) ?_
  intro p e s md args below meth c hC hw hS ls hl
  obtain ⟨hx, hb, hr, hml, hown, hts, hK, hlk⟩ := hC
  have hl : lv_has ls 2 [(0, .ref (ad g (3 + i)))] := hl
  rw [← gs_same hm] at hw
  unfold f_X0_readRow at h
  have main : JL p l e ({ frames := 1, cells := 0, slots := 0, locals := 21 } : Room) s md args below meth c D cy ad (MQ below (QI D cy ad r (gs M0 g x)) args s 0 0 (AD ad)) (gs M0 g m) 2 [(0, .ref (ad g (3 + i)))] 0 [] := by
    intro H locs hw hS ls hl
    refine lv_aload_n hx hb dX0_readRow_0 rfl (lv_at hl 0 rfl) ?_
    refine r_get hx hb hts hown hK hw (v_bk hg hi) gs_atc (E_bk hg hi) inX0 rfl 5 (by decide) k_88 rfl rfl dX0_readRow_1 ?_
    refine lv_aload_n hx hb dX0_readRow_4 rfl (lv_at hl 0 rfl) ?_
    refine r_get hx hb hts hown hK hw (v_bk hg hi) gs_atc (E_bk hg hi) inX0 rfl 4 (by decide) k_85 rfl rfl dX0_readRow_5 ?_
    refine lv_icmp_lt (tgt := 14) hx hb dX0_readRow_8 (by decide) (fun q1 => ?_) (fun q1 => ?_)
    · replace h := t_pos h q1
      refine lv_aload_n hx hb dX0_readRow_14 rfl (lv_at hl 0 rfl) ?_
      refine r_get hx hb hts hown hK hw (v_bk hg hi) gs_atc (E_bk hg hi) inX0 rfl 0 (by decide) k_72 rfl rfl dX0_readRow_15 ?_
      refine lv_aload_n hx hb dX0_readRow_18 rfl (lv_at hl 0 rfl) ?_
      refine r_get hx hb hts hown hK hw (v_bk hg hi) gs_atc (E_bk hg hi) inX0 rfl 5 (by decide) k_88 rfl rfl dX0_readRow_19 ?_
      obtain ⟨q2, h⟩ := t_gd h
      refine r_iald hx hb hK hw (v_va hg hi) gs_atc (E_va hg hi) q2 dX0_readRow_22 ?_
      refine lv_istore_n (lv' := [(1, .int (m (11 + i) (m (3 + i) 5).toNatClampNeg)), (0, .ref (ad g (3 + i)))]) hx hb dX0_readRow_23 rfl hl (by decide) rfl (fun ls hl => ?_)
      refine lv_aload_n hx hb dX0_readRow_24 rfl (lv_at hl 1 rfl) ?_
      refine lv_dup hx hb dX0_readRow_25 rfl ?_
      refine r_get hx hb hts hown hK hw (v_bk hg hi) gs_atc (E_bk hg hi) inX0 rfl 5 (by decide) k_88 rfl rfl dX0_readRow_26 ?_
      refine lv_iconst (v := nI 1) hx hb dX0_readRow_29 (by decide) ?_
      refine lv_iadd hx hb dX0_readRow_30 ?_
      obtain ⟨m4, e3, h⟩ := t_lt h
      refine r_put hx hb hts hown hK hcv hw hS (v_bk hg hi) gs_atc (E_bk hg hi) inX0 rfl tyX0 tyX0_ok nmX0 5 (by decide) k_88 rfl rfl rfl rfl (Nat.le_of_ble_eq_true rfl) (E_bk hg hi) (gs_up e3) dX0_readRow_31 (fun H locs hw hS => ?_)
      refine lv_aload_n hx hb dX0_readRow_34 rfl (lv_at hl 1 rfl) ?_
      refine lv_dup hx hb dX0_readRow_35 rfl ?_
      refine r_get hx hb hts hown hK hw (v_bk hg hi) gs_atc (E_bk hg hi) inX0 rfl 6 (by decide) k_91 rfl rfl dX0_readRow_36 ?_
      refine lv_iload_n hx hb dX0_readRow_39 rfl (lv_at hl 0 rfl) ?_
      refine lv_iadd hx hb dX0_readRow_40 ?_
      obtain ⟨m6, e5, h⟩ := t_lt h
      refine r_put hx hb hts hown hK hcv hw hS (v_bk hg hi) gs_atc (E_bk hg hi) inX0 rfl tyX0 tyX0_ok nmX0 6 (by decide) k_91 rfl rfl rfl rfl (Nat.le_of_ble_eq_true rfl) (E_bk hg hi) (gs_up e5) dX0_readRow_41 (fun H locs hw hS => ?_)
      refine lv_aload_n hx hb dX0_readRow_44 rfl (lv_at hl 1 rfl) ?_
      refine lv_aload_n hx hb dX0_readRow_45 rfl (lv_at hl 1 rfl) ?_
      refine r_get hx hb hts hown hK hw (v_bk hg hi) gs_atc (E_bk hg hi) inX0 rfl 7 (by decide) k_94 rfl rfl dX0_readRow_46 ?_
      refine lv_iload_n hx hb dX0_readRow_49 rfl (lv_at hl 0 rfl) ?_
      refine r_min hx hb hts (hml.trans hl.1.symm) hown k_287 k_270 k_8 k_271 (Nat.le_of_ble_eq_true rfl) (Nat.le_of_ble_eq_true rfl) (Nat.le_of_ble_eq_true rfl) (Nat.le_of_ble_eq_true rfl) dX0_readRow_50 ?_
      obtain ⟨m8, e7, h⟩ := t_lt h
      refine r_put hx hb hts hown hK hcv hw hS (v_bk hg hi) gs_atc (E_bk hg hi) inX0 rfl tyX0 tyX0_ok nmX0 7 (by decide) k_94 rfl rfl rfl rfl (Nat.le_of_ble_eq_true rfl) (E_bk hg hi) (gs_up e7) dX0_readRow_53 (fun H locs hw hS => ?_)
      refine lv_aload_n hx hb dX0_readRow_56 rfl (lv_at hl 1 rfl) ?_
      refine lv_aload_n hx hb dX0_readRow_57 rfl (lv_at hl 1 rfl) ?_
      refine r_get hx hb hts hown hK hw (v_bk hg hi) gs_atc (E_bk hg hi) inX0 rfl 8 (by decide) k_95 rfl rfl dX0_readRow_58 ?_
      refine lv_iload_n hx hb dX0_readRow_61 rfl (lv_at hl 0 rfl) ?_
      refine r_max hx hb hts (hml.trans hl.1.symm) hown k_288 k_273 k_8 k_274 (Nat.le_of_ble_eq_true rfl) (Nat.le_of_ble_eq_true rfl) (Nat.le_of_ble_eq_true rfl) (Nat.le_of_ble_eq_true rfl) dX0_readRow_62 ?_
      obtain ⟨m10, e9, h⟩ := t_lt h
      refine r_put hx hb hts hown hK hcv hw hS (v_bk hg hi) gs_atc (E_bk hg hi) inX0 rfl tyX0 tyX0_ok nmX0 8 (by decide) k_95 rfl rfl rfl rfl (Nat.le_of_ble_eq_true rfl) (E_bk hg hi) (gs_up e9) dX0_readRow_65 (fun H locs hw hS => ?_)
      refine lv_iload_n hx hb dX0_readRow_68 rfl (lv_at hl 0 rfl) ?_
      have e1 := (t_ret h).1
      have e2 := (t_ret h).2
      exact e_i hx hb hr hlk hw hS e1 (by rw [e2]) dX0_readRow_69
    · replace h := t_neg h q1
      refine lv_bipush (v := -5) hx hb dX0_readRow_11 (by decide) ?_
      have e1 := (t_ret h).1
      have e2 := (t_ret h).2
      exact e_i hx hb hr hlk hw hS e1 (by rw [e2]) dX0_readRow_13
  exact main _ _ hw hS ls hl

theorem cf_X0_readFirst : cfV RX0 yX0_readFirst cX0_readFirst 3 none 1 := ⟨⟨k_474, k_475, k_4, k_476⟩, by decide +kernel⟩
def f_X0_readFirst_L24 (i : Nat) (p0 : Int32) : Nat → SM → Int32 → Option (Int32 × SM)
  | 0, _, _ => none
  | n + 1, m, x2 => (if p0 ≤ x2 then some (0, m) else bd (f_X0_readRow m i) fun r3 m4 => f_X0_readFirst_L24 i p0 n m4 (x2 + (nI 1)))
def f_X0_readFirst (m : SM) (i : Nat) (p0 : Int32) : Option (Int32 × SM) :=
  lt1 (up m (3 + i) 5 (nI 0)) fun m2 => lt1 (up m2 (3 + i) 6 (nI 0)) fun m4 => lt1 (up m4 (3 + i) 7 (nI 999)) fun m6 => lt1 (up m6 (3 + i) 8 (nI 0)) fun m8 => f_X0_readFirst_L24 i p0 FU m8 (nI 0)
set_option maxHeartbeats 4000000 in
set_option maxRecDepth 100000 in
theorem c_X0_readFirst {l : Launch} {D : va_G} {cy : Nat → ClassId} {ad : Nat → Nat → Nat} (hcv : CV ad) {g : Nat} (hg : g < 7) {i : Nat} (hi : i < 8) {M0 : MM} {m : SM} (hm : M0 g = m) {p0 : Int32} {r : Int32} {x : SM} (h : f_X0_readFirst m i p0 = some (r, x)) : Met l yX0_readFirst (.code yX0_readFirst cX0_readFirst 3 none :: TB) ({ frames := 2, cells := 0, slots := 0, locals := 42 } : Room) (PW D cy ad M0 [.ref (ad g (3 + i)), .int p0]) (QV D cy ad (gs M0 g x)) 0 0 (AD ad) := by
  refine m_in (by decide +kernel) (Nat.le_of_ble_eq_true rfl) ?_
  intro p e s md args below meth c hC hw hS ls hl
  obtain ⟨hx, hb, hr, hml, hown, hts, hK, hlk⟩ := hC
  have hl : lv_has ls 3 [(0, .ref (ad g (3 + i))), (1, .int p0)] := hl
  rw [← gs_same hm] at hw
  have L24 : ∀ (n : Nat), ∀ (m : SM) (x2 : Int32), f_X0_readFirst_L24 i p0 n m x2 = some (r, x) → JL p l e ({ frames := 2, cells := 0, slots := 0, locals := 42 } : Room) s md args below meth c D cy ad (MQ below (QV D cy ad (gs M0 g x)) args s 0 0 (AD ad)) (gs M0 g m) 3 [(0, .ref (ad g (3 + i))), (1, .int p0), (2, .int x2)] 24 [] := by
    intro n
    induction n with
    | zero =>
      intro m x2 h
      cases h
    | succ n ih =>
      intro m x2 h H locs hw hS ls hl
      rw [f_X0_readFirst_L24.eq_2] at h
      refine lv_iload_n hx hb dX0_readFirst_24 rfl (lv_at hl 2 rfl) ?_
      refine lv_iload_n hx hb dX0_readFirst_25 rfl (lv_at hl 1 rfl) ?_
      refine lv_icmp_ge (tgt := 40) hx hb dX0_readFirst_26 (by decide) (fun q1 => ?_) (fun q1 => ?_)
      · replace h := t_pos h q1
        have e1 := (t_ret h).1
        have e2 := (t_ret h).2
        exact e_v hx hb hr hlk hw hS (by rw [e2]) dX0_readFirst_40
      · replace h := t_neg h q1
        refine lv_aload_n hx hb dX0_readFirst_29 rfl (lv_at hl 0 rfl) ?_
        obtain ⟨r3, m4, y2, h⟩ := t_bd h
        refine c_vi hx hb hml hown hts hK hw hS (fun _ h => h) (As := []) (rest := []) (c_X0_readRow hcv (g := g) (hg := hg) (i := i) (hi := hi) (M0 := gs M0 g m) (m := m) (hm := gs_at) y2) cf_X0_readRow k_477 rfl rfl ⟨Nat.le_of_ble_eq_true rfl, Nat.le_of_ble_eq_true rfl⟩ (r_recv hK hw (v_bk hg hi) (E_bk hg hi) rfl) rfl hl.1 rfl (Nat.le_of_ble_eq_true rfl) ⟨Nat.le_refl _, Nat.le_refl _⟩ dX0_readFirst_30 (fun H locs hw hS => ?_)
        rw [gs_gs] at hw
        refine lv_pop hx hb dX0_readFirst_33 rfl ?_
        refine lv_iinc (v := (x2 + (nI 1))) (lv' := [(2, .int (x2 + (nI 1))), (0, .ref (ad g (3 + i))), (1, .int p0)]) hx hb dX0_readFirst_34 hl (k := 2) rfl rfl (by decide) rfl (fun ls hl => ?_)
        refine lv_goto (tgt := 24) hx hb dX0_readFirst_37 (by decide) ?_
        exact ih m4 (x2 + (nI 1)) h H locs hw hS ls (lv_sub hl [1, 2, 0] rfl)
  unfold f_X0_readFirst at h
  have main : JL p l e ({ frames := 2, cells := 0, slots := 0, locals := 42 } : Room) s md args below meth c D cy ad (MQ below (QV D cy ad (gs M0 g x)) args s 0 0 (AD ad)) (gs M0 g m) 3 [(0, .ref (ad g (3 + i))), (1, .int p0)] 0 [] := by
    intro H locs hw hS ls hl
    refine lv_aload_n hx hb dX0_readFirst_0 rfl (lv_at hl 0 rfl) ?_
    refine lv_iconst (v := nI 0) hx hb dX0_readFirst_1 (by decide) ?_
    obtain ⟨m2, e1, h⟩ := t_lt h
    refine r_put hx hb hts hown hK hcv hw hS (v_bk hg hi) gs_atc (E_bk hg hi) inX0 rfl tyX0 tyX0_ok nmX0 5 (by decide) k_88 rfl rfl rfl rfl (Nat.le_of_ble_eq_true rfl) (E_bk hg hi) (gs_up e1) dX0_readFirst_2 (fun H locs hw hS => ?_)
    refine lv_aload_n hx hb dX0_readFirst_5 rfl (lv_at hl 0 rfl) ?_
    refine lv_iconst (v := nI 0) hx hb dX0_readFirst_6 (by decide) ?_
    obtain ⟨m4, e3, h⟩ := t_lt h
    refine r_put hx hb hts hown hK hcv hw hS (v_bk hg hi) gs_atc (E_bk hg hi) inX0 rfl tyX0 tyX0_ok nmX0 6 (by decide) k_91 rfl rfl rfl rfl (Nat.le_of_ble_eq_true rfl) (E_bk hg hi) (gs_up e3) dX0_readFirst_7 (fun H locs hw hS => ?_)
    refine lv_aload_n hx hb dX0_readFirst_10 rfl (lv_at hl 0 rfl) ?_
    refine lv_sipush (v := nI 999) hx hb dX0_readFirst_11 (by decide) ?_
    obtain ⟨m6, e5, h⟩ := t_lt h
    refine r_put hx hb hts hown hK hcv hw hS (v_bk hg hi) gs_atc (E_bk hg hi) inX0 rfl tyX0 tyX0_ok nmX0 7 (by decide) k_94 rfl rfl rfl rfl (Nat.le_of_ble_eq_true rfl) (E_bk hg hi) (gs_up e5) dX0_readFirst_14 (fun H locs hw hS => ?_)
    refine lv_aload_n hx hb dX0_readFirst_17 rfl (lv_at hl 0 rfl) ?_
    refine lv_iconst (v := nI 0) hx hb dX0_readFirst_18 (by decide) ?_
    obtain ⟨m8, e7, h⟩ := t_lt h
    refine r_put hx hb hts hown hK hcv hw hS (v_bk hg hi) gs_atc (E_bk hg hi) inX0 rfl tyX0 tyX0_ok nmX0 8 (by decide) k_95 rfl rfl rfl rfl (Nat.le_of_ble_eq_true rfl) (E_bk hg hi) (gs_up e7) dX0_readFirst_19 (fun H locs hw hS => ?_)
    refine lv_iconst (v := nI 0) hx hb dX0_readFirst_22 (by decide) ?_
    refine lv_istore_n (lv' := [(2, .int (nI 0)), (0, .ref (ad g (3 + i))), (1, .int p0)]) hx hb dX0_readFirst_23 rfl hl (by decide) rfl (fun ls hl => ?_)
    exact L24 FU m8 (nI 0) h H locs hw hS ls (lv_sub hl [1, 2, 0] rfl)
  exact main _ _ hw hS ls hl

theorem cf_X0_copyFromText : cfV RX0 yX0_copyFromText cX0_copyFromText 2 none 1 := ⟨⟨k_470, k_471, k_4, k_472⟩, by decide +kernel⟩
def f_X0_copyFromText (m : SM) (mz : SM) (i : Nat) : Option (Int32 × SM) :=
  lt1 (sc m (11 + i) (va_cpy (mz 2) (m (11 + i)) 0 0 16)) fun m2 => lt1 (up m2 (3 + i) 1 (mz 0 4)) fun m4 => lt1 (up m4 (3 + i) 2 (mz 0 5)) fun m6 => lt1 (up m6 (3 + i) 3 (mz 0 6)) fun m8 => lt1 (up m8 (3 + i) 4 (mz 0 7)) fun m10 => bd (f_X0_readFirst m10 i (nI 0)) fun r12 m13 => some (0, m13)
set_option maxHeartbeats 4000000 in
set_option maxRecDepth 100000 in
theorem c_X0_copyFromText {l : Launch} {D : va_G} {cy : Nat → ClassId} {ad : Nat → Nat → Nat} (hcv : CV ad) {g : Nat} (hg : g < 7) {i : Nat} (hi : i < 8) {M0 : MM} {m : SM} (hm : M0 g = m) (hne : 7 ≠ g) {mz : SM} (hm2 : M0 7 = mz) {r : Int32} {x : SM} (h : f_X0_copyFromText m mz i = some (r, x)) : Met l yX0_copyFromText (.code yX0_copyFromText cX0_copyFromText 2 none :: TB) ({ frames := 3, cells := 0, slots := 0, locals := 64 } : Room) (PW D cy ad M0 [.ref (ad g (3 + i)), .ref (ad 7 0)]) (QV D cy ad (gs M0 g x)) 0 0 (AD ad) := by
  refine m_in (by decide +kernel) (Nat.le_of_ble_eq_true rfl) ?_
  intro p e s md args below meth c hC hw hS ls hl
  obtain ⟨hx, hb, hr, hml, hown, hts, hK, hlk⟩ := hC
  have hl : lv_has ls 2 [(0, .ref (ad g (3 + i))), (1, .ref (ad 7 0))] := hl
  rw [← gs_same hm] at hw
  unfold f_X0_copyFromText at h
  have main : JL p l e ({ frames := 3, cells := 0, slots := 0, locals := 64 } : Room) s md args below meth c D cy ad (MQ below (QV D cy ad (gs M0 g x)) args s 0 0 (AD ad)) (gs M0 g m) 2 [(0, .ref (ad g (3 + i))), (1, .ref (ad 7 0))] 0 [] := by
    intro H locs hw hS ls hl
    refine lv_aload_n hx hb dX0_copyFromText_0 rfl (lv_at hl 1 rfl) ?_
    refine r_get hx hb hts hown hK hw (v_tx (by decide)) (gs_nec hne hm2) E_tx inX1 rfl 1 (by decide) k_25 rfl rfl dX0_copyFromText_1 ?_
    refine lv_iconst (v := nI 0) hx hb dX0_copyFromText_4 (by decide) ?_
    refine lv_aload_n hx hb dX0_copyFromText_5 rfl (lv_at hl 0 rfl) ?_
    refine r_get hx hb hts hown hK hw (v_bk hg hi) gs_atc (E_bk hg hi) inX0 rfl 0 (by decide) k_72 rfl rfl dX0_copyFromText_6 ?_
    refine lv_iconst (v := nI 0) hx hb dX0_copyFromText_9 (by decide) ?_
    refine lv_bipush (v := nI 16) hx hb dX0_copyFromText_10 (by decide) ?_
    obtain ⟨m2, e1, h⟩ := t_lt h
    refine r_copy hx hb hts (hml.trans hl.1.symm) hown k_243 k_245 k_244 k_7 hK hcv hw hS (v_va hg hi) gs_atc (fun _ => (E_va hg hi)) (v_tx (by decide)) (gs_nec hne hm2) (fun _ => E_tv) (by decide) (by decide) (by decide) (by decide) (by decide) (Nat.le_of_ble_eq_true rfl) (by decide) (gs_sc e1) dX0_copyFromText_12 (fun H locs hw hS => ?_)
    refine lv_aload_n hx hb dX0_copyFromText_15 rfl (lv_at hl 0 rfl) ?_
    refine lv_aload_n hx hb dX0_copyFromText_16 rfl (lv_at hl 1 rfl) ?_
    refine r_get hx hb hts hown hK hw (v_tx (by decide)) (gs_nec hne hm2) E_tx inX1 rfl 4 (by decide) k_31 rfl rfl dX0_copyFromText_17 ?_
    obtain ⟨m4, e3, h⟩ := t_lt h
    refine r_put hx hb hts hown hK hcv hw hS (v_bk hg hi) gs_atc (E_bk hg hi) inX0 rfl tyX0 tyX0_ok nmX0 1 (by decide) k_74 rfl rfl rfl rfl (Nat.le_of_ble_eq_true rfl) (E_bk hg hi) (gs_up e3) dX0_copyFromText_20 (fun H locs hw hS => ?_)
    refine lv_aload_n hx hb dX0_copyFromText_23 rfl (lv_at hl 0 rfl) ?_
    refine lv_aload_n hx hb dX0_copyFromText_24 rfl (lv_at hl 1 rfl) ?_
    refine r_get hx hb hts hown hK hw (v_tx (by decide)) (gs_nec hne hm2) E_tx inX1 rfl 5 (by decide) k_32 rfl rfl dX0_copyFromText_25 ?_
    obtain ⟨m6, e5, h⟩ := t_lt h
    refine r_put hx hb hts hown hK hcv hw hS (v_bk hg hi) gs_atc (E_bk hg hi) inX0 rfl tyX0 tyX0_ok nmX0 2 (by decide) k_77 rfl rfl rfl rfl (Nat.le_of_ble_eq_true rfl) (E_bk hg hi) (gs_up e5) dX0_copyFromText_28 (fun H locs hw hS => ?_)
    refine lv_aload_n hx hb dX0_copyFromText_31 rfl (lv_at hl 0 rfl) ?_
    refine lv_aload_n hx hb dX0_copyFromText_32 rfl (lv_at hl 1 rfl) ?_
    refine r_get hx hb hts hown hK hw (v_tx (by decide)) (gs_nec hne hm2) E_tx inX1 rfl 6 (by decide) k_34 rfl rfl dX0_copyFromText_33 ?_
    obtain ⟨m8, e7, h⟩ := t_lt h
    refine r_put hx hb hts hown hK hcv hw hS (v_bk hg hi) gs_atc (E_bk hg hi) inX0 rfl tyX0 tyX0_ok nmX0 3 (by decide) k_81 rfl rfl rfl rfl (Nat.le_of_ble_eq_true rfl) (E_bk hg hi) (gs_up e7) dX0_copyFromText_36 (fun H locs hw hS => ?_)
    refine lv_aload_n hx hb dX0_copyFromText_39 rfl (lv_at hl 0 rfl) ?_
    refine lv_aload_n hx hb dX0_copyFromText_40 rfl (lv_at hl 1 rfl) ?_
    refine r_get hx hb hts hown hK hw (v_tx (by decide)) (gs_nec hne hm2) E_tx inX1 rfl 7 (by decide) k_36 rfl rfl dX0_copyFromText_41 ?_
    obtain ⟨m10, e9, h⟩ := t_lt h
    refine r_put hx hb hts hown hK hcv hw hS (v_bk hg hi) gs_atc (E_bk hg hi) inX0 rfl tyX0 tyX0_ok nmX0 4 (by decide) k_85 rfl rfl rfl rfl (Nat.le_of_ble_eq_true rfl) (E_bk hg hi) (gs_up e9) dX0_copyFromText_44 (fun H locs hw hS => ?_)
    refine lv_aload_n hx hb dX0_copyFromText_47 rfl (lv_at hl 0 rfl) ?_
    refine lv_iconst (v := nI 0) hx hb dX0_copyFromText_48 (by decide) ?_
    obtain ⟨r12, m13, y11, h⟩ := t_bd h
    refine c_vv hx hb hml hown hts hK hw hS (fun _ h => h) (As := [.int (nI 0)]) (rest := []) (c_X0_readFirst hcv (g := g) (hg := hg) (i := i) (hi := hi) (M0 := gs M0 g m10) (m := m10) (hm := gs_at) y11) cf_X0_readFirst k_473 rfl rfl ⟨Nat.le_of_ble_eq_true rfl, Nat.le_of_ble_eq_true rfl⟩ (r_recv hK hw (v_bk hg hi) (E_bk hg hi) rfl) rfl hl.1 rfl (Nat.le_of_ble_eq_true rfl) ⟨Nat.le_refl _, Nat.le_refl _⟩ dX0_copyFromText_49 (fun H locs hw hS => ?_)
    rw [gs_gs] at hw
    have e1 := (t_ret h).1
    have e2 := (t_ret h).2
    exact e_v hx hb hr hlk hw hS (by rw [e2]) dX0_copyFromText_52
  exact main _ _ hw hS ls hl

theorem cf_X0_unread : cfV RX0 yX0_unread cX0_unread 1 (some .int) 0 := ⟨⟨k_280, k_281, k_4, k_282⟩, by decide +kernel⟩
def f_X0_unread (m : SM) (i : Nat) : Option (Int32) :=
  some ((m (3 + i) 4) - (m (3 + i) 5))
set_option maxHeartbeats 4000000 in
set_option maxRecDepth 100000 in
theorem c_X0_unread {l : Launch} {D : va_G} {cy : Nat → ClassId} {ad : Nat → Nat → Nat} (hcv : CV ad) {g : Nat} (hg : g < 7) {i : Nat} (hi : i < 8) {M0 : MM} {m : SM} (hm : M0 g = m) {r : Int32} (h : f_X0_unread m i = some r) : Met l yX0_unread (.code yX0_unread cX0_unread 1 (some .int) :: TB) ({ frames := 0, cells := 0, slots := 0, locals := 0 } : Room) (PW D cy ad M0 [.ref (ad g (3 + i))]) (QI D cy ad r M0) 0 0 (AD ad) := by
  refine m_in (by decide +kernel) (Nat.le_of_ble_eq_true rfl) ?_
  intro p e s md args below meth c hC hw hS ls hl
  obtain ⟨hx, hb, hr, hml, hown, hts, hK, hlk⟩ := hC
  have hl : lv_has ls 1 [(0, .ref (ad g (3 + i)))] := hl
  rw [← gs_same hm] at hw
  unfold f_X0_unread at h
  have main : JL p l e ({ frames := 0, cells := 0, slots := 0, locals := 0 } : Room) s md args below meth c D cy ad (MQ below (QI D cy ad r M0) args s 0 0 (AD ad)) (gs M0 g m) 1 [(0, .ref (ad g (3 + i)))] 0 [] := by
    intro H locs hw hS ls hl
    refine lv_aload_n hx hb dX0_unread_0 rfl (lv_at hl 0 rfl) ?_
    refine r_get hx hb hts hown hK hw (v_bk hg hi) gs_atc (E_bk hg hi) inX0 rfl 4 (by decide) k_85 rfl rfl dX0_unread_1 ?_
    refine lv_aload_n hx hb dX0_unread_4 rfl (lv_at hl 0 rfl) ?_
    refine r_get hx hb hts hown hK hw (v_bk hg hi) gs_atc (E_bk hg hi) inX0 rfl 5 (by decide) k_88 rfl rfl dX0_unread_5 ?_
    refine lv_isub hx hb dX0_unread_8 ?_
    have e1 := Option.some.inj h
    exact e_i hx hb hr hlk hw hS e1 (gs_same hm) dX0_unread_9
  exact main _ _ hw hS ls hl

theorem cf_X0_readFromLimit : cfV RX0 yX0_readFromLimit cX0_readFromLimit 4 (some .int) 1 := ⟨⟨k_284, k_285, k_4, k_286⟩, by decide +kernel⟩
def f_X0_readFromLimit_L4 (m : SM) (i : Nat) (p0 : Int32) : Nat → Int32 → Int32 → Option (Int32)
  | 0, _, _ => none
  | n + 1, x2, x3 => (if (m (3 + i) 5) ≤ x3 then some x2 else gd x3 16 ((if (m (11 + i) x3.toNatClampNeg) < p0 then f_X0_readFromLimit_L4 m i p0 n x2 (x3 + (nI 1)) else f_X0_readFromLimit_L4 m i p0 n (x2 + (nI 1)) (x3 + (nI 1)))))
def f_X0_readFromLimit (m : SM) (i : Nat) (p0 : Int32) : Option (Int32) :=
  f_X0_readFromLimit_L4 m i p0 FU (nI 0) (nI 0)
set_option maxHeartbeats 4000000 in
set_option maxRecDepth 100000 in
theorem c_X0_readFromLimit {l : Launch} {D : va_G} {cy : Nat → ClassId} {ad : Nat → Nat → Nat} (hcv : CV ad) {g : Nat} (hg : g < 7) {i : Nat} (hi : i < 8) {M0 : MM} {m : SM} (hm : M0 g = m) {p0 : Int32} {r : Int32} (h : f_X0_readFromLimit m i p0 = some r) : Met l yX0_readFromLimit (.code yX0_readFromLimit cX0_readFromLimit 4 (some .int) :: TB) ({ frames := 0, cells := 0, slots := 0, locals := 0 } : Room) (PW D cy ad M0 [.ref (ad g (3 + i)), .int p0]) (QI D cy ad r M0) 0 0 (AD ad) := by
  refine m_in (by decide +kernel) (Nat.le_of_ble_eq_true rfl) ?_
  intro p e s md args below meth c hC hw hS ls hl
  obtain ⟨hx, hb, hr, hml, hown, hts, hK, hlk⟩ := hC
  have hl : lv_has ls 4 [(0, .ref (ad g (3 + i))), (1, .int p0)] := hl
  rw [← gs_same hm] at hw
  have L4 : ∀ (n : Nat), ∀ (x2 : Int32) (x3 : Int32), f_X0_readFromLimit_L4 m i p0 n x2 x3 = some r → JL p l e ({ frames := 0, cells := 0, slots := 0, locals := 0 } : Room) s md args below meth c D cy ad (MQ below (QI D cy ad r M0) args s 0 0 (AD ad)) (gs M0 g m) 4 [(0, .ref (ad g (3 + i))), (1, .int p0), (2, .int x2), (3, .int x3)] 4 [] := by
    intro n
    induction n with
    | zero =>
      intro x2 x3 h
      cases h
    | succ n ih =>
      intro x2 x3 h H locs hw hS ls hl
      rw [f_X0_readFromLimit_L4.eq_2] at h
      refine lv_iload_n hx hb dX0_readFromLimit_4 rfl (lv_at hl 3 rfl) ?_
      refine lv_aload_n hx hb dX0_readFromLimit_5 rfl (lv_at hl 0 rfl) ?_
      refine r_get hx hb hts hown hK hw (v_bk hg hi) gs_atc (E_bk hg hi) inX0 rfl 5 (by decide) k_88 rfl rfl dX0_readFromLimit_6 ?_
      refine lv_icmp_ge (tgt := 31) hx hb dX0_readFromLimit_9 (by decide) (fun q1 => ?_) (fun q1 => ?_)
      · replace h := t_pos h q1
        refine lv_iload_n hx hb dX0_readFromLimit_31 rfl (lv_at hl 2 rfl) ?_
        have e1 := Option.some.inj h
        exact e_i hx hb hr hlk hw hS e1 (gs_same hm) dX0_readFromLimit_32
      · replace h := t_neg h q1
        refine lv_aload_n hx hb dX0_readFromLimit_12 rfl (lv_at hl 0 rfl) ?_
        refine r_get hx hb hts hown hK hw (v_bk hg hi) gs_atc (E_bk hg hi) inX0 rfl 0 (by decide) k_72 rfl rfl dX0_readFromLimit_13 ?_
        refine lv_iload_n hx hb dX0_readFromLimit_16 rfl (lv_at hl 3 rfl) ?_
        obtain ⟨q2, h⟩ := t_gd h
        refine r_iald hx hb hK hw (v_va hg hi) gs_atc (E_va hg hi) q2 dX0_readFromLimit_17 ?_
        refine lv_iload_n hx hb dX0_readFromLimit_18 rfl (lv_at hl 1 rfl) ?_
        refine lv_icmp_lt (tgt := 25) hx hb dX0_readFromLimit_19 (by decide) (fun q3 => ?_) (fun q3 => ?_)
        · replace h := t_pos h q3
          refine lv_iinc (v := (x3 + (nI 1))) (lv' := [(3, .int (x3 + (nI 1))), (0, .ref (ad g (3 + i))), (1, .int p0), (2, .int x2)]) hx hb dX0_readFromLimit_25 hl (k := 3) rfl rfl (by decide) rfl (fun ls hl => ?_)
          refine lv_goto (tgt := 4) hx hb dX0_readFromLimit_28 (by decide) ?_
          exact ih x2 (x3 + (nI 1)) h H locs hw hS ls (lv_sub hl [1, 2, 3, 0] rfl)
        · replace h := t_neg h q3
          refine lv_iinc (v := (x2 + (nI 1))) (lv' := [(2, .int (x2 + (nI 1))), (0, .ref (ad g (3 + i))), (1, .int p0), (3, .int x3)]) hx hb dX0_readFromLimit_22 hl (k := 2) rfl rfl (by decide) rfl (fun ls hl => ?_)
          refine lv_iinc (v := (x3 + (nI 1))) (lv' := [(3, .int (x3 + (nI 1))), (2, .int (x2 + (nI 1))), (0, .ref (ad g (3 + i))), (1, .int p0)]) hx hb dX0_readFromLimit_25 hl (k := 3) rfl rfl (by decide) rfl (fun ls hl => ?_)
          refine lv_goto (tgt := 4) hx hb dX0_readFromLimit_28 (by decide) ?_
          exact ih (x2 + (nI 1)) (x3 + (nI 1)) h H locs hw hS ls (lv_sub hl [2, 3, 1, 0] rfl)
  unfold f_X0_readFromLimit at h
  have main : JL p l e ({ frames := 0, cells := 0, slots := 0, locals := 0 } : Room) s md args below meth c D cy ad (MQ below (QI D cy ad r M0) args s 0 0 (AD ad)) (gs M0 g m) 4 [(0, .ref (ad g (3 + i))), (1, .int p0)] 0 [] := by
    intro H locs hw hS ls hl
    refine lv_iconst (v := nI 0) hx hb dX0_readFromLimit_0 (by decide) ?_
    refine lv_istore_n (lv' := [(2, .int (nI 0)), (0, .ref (ad g (3 + i))), (1, .int p0)]) hx hb dX0_readFromLimit_1 rfl hl (by decide) rfl (fun ls hl => ?_)
    refine lv_iconst (v := nI 0) hx hb dX0_readFromLimit_2 (by decide) ?_
    refine lv_istore_n (lv' := [(3, .int (nI 0)), (2, .int (nI 0)), (0, .ref (ad g (3 + i))), (1, .int p0)]) hx hb dX0_readFromLimit_3 rfl hl (by decide) rfl (fun ls hl => ?_)
    exact L4 FU (nI 0) (nI 0) h H locs hw hS ls (lv_sub hl [2, 3, 1, 0] rfl)
  exact main _ _ hw hS ls hl

theorem cf_X0_share : cfV RX0 yX0_share cX0_share 5 (some .int) 3 := ⟨⟨k_276, k_277, k_4, k_278⟩, by decide +kernel⟩
def f_X0_share (m : SM) (i : Nat) (p0 : Int32) (p1 : Int32) (p2 : Int32) : Option (Int32) :=
  b1 (f_X0_unread m i) fun r2 => (if p0 = (nI 1) then b1 (f_X0_readFromLimit m i p1) fun r9 => (if p2 < p1 then some (r9 + (nI 0)) else some (r9 + r2)) else (if p0 = (nI 2) then (if r2 ≤ (nI 0) then some (m (3 + i) 7) else some (mn (m (3 + i) 7) p2)) else (if p0 = (nI 3) then (if r2 ≤ (nI 0) then some (m (3 + i) 8) else some (mx (m (3 + i) 8) p2)) else (some ((m (3 + i) 6) + (r2 * p2))))))
set_option maxHeartbeats 4000000 in
set_option maxRecDepth 100000 in
theorem c_X0_share {l : Launch} {D : va_G} {cy : Nat → ClassId} {ad : Nat → Nat → Nat} (hcv : CV ad) {g : Nat} (hg : g < 7) {i : Nat} (hi : i < 8) {M0 : MM} {m : SM} (hm : M0 g = m) {p0 p1 p2 : Int32} {r : Int32} (h : f_X0_share m i p0 p1 p2 = some r) : Met l yX0_share (.code yX0_share cX0_share 5 (some .int) :: TB) ({ frames := 1, cells := 0, slots := 0, locals := 23 } : Room) (PW D cy ad M0 [.ref (ad g (3 + i)), .int p0, .int p1, .int p2]) (QI D cy ad r M0) 0 0 (AD ad) := by
  refine m_in (by decide +kernel) (Nat.le_of_ble_eq_true rfl) ?_
  intro p e s md args below meth c hC hw hS ls hl
  obtain ⟨hx, hb, hr, hml, hown, hts, hK, hlk⟩ := hC
  have hl : lv_has ls 5 [(0, .ref (ad g (3 + i))), (1, .int p0), (2, .int p1), (3, .int p2)] := hl
  rw [← gs_same hm] at hw
  unfold f_X0_share at h
  have main : JL p l e ({ frames := 1, cells := 0, slots := 0, locals := 23 } : Room) s md args below meth c D cy ad (MQ below (QI D cy ad r M0) args s 0 0 (AD ad)) (gs M0 g m) 5 [(0, .ref (ad g (3 + i))), (1, .int p0), (2, .int p1), (3, .int p2)] 0 [] := by
    intro H locs hw hS ls hl
    refine lv_aload_n hx hb dX0_share_0 rfl (lv_at hl 0 rfl) ?_
    obtain ⟨r2, y1, h⟩ := t_b1 h
    refine c_vi hx hb hml hown hts hK hw hS (fun _ h => h) (As := []) (rest := []) (c_X0_unread hcv (g := g) (hg := hg) (i := i) (hi := hi) (M0 := gs M0 g m) (m := m) (hm := gs_at) y1) cf_X0_unread k_279 rfl rfl ⟨Nat.le_of_ble_eq_true rfl, Nat.le_of_ble_eq_true rfl⟩ (r_recv hK hw (v_bk hg hi) (E_bk hg hi) rfl) rfl hl.1 rfl (Nat.le_of_ble_eq_true rfl) ⟨Nat.le_refl _, Nat.le_refl _⟩ dX0_share_1 (fun H locs hw hS => ?_)
    refine lv_istore (lv' := [(4, .int r2), (0, .ref (ad g (3 + i))), (1, .int p0), (2, .int p1), (3, .int p2)]) hx hb dX0_share_4 hl (by decide) rfl (fun ls hl => ?_)
    refine lv_iload_n hx hb dX0_share_6 rfl (lv_at hl 2 rfl) ?_
    by_cases q3 : p0 = (nI 1)
    · replace h := t_pos h q3
      refine lv_tableIn (off := 25) (tgt := 32) hx hb dX0_share_7 (by rw [q3]; decide) (by rw [q3]; decide) (by rw [q3]; rfl) (by decide) ?_
      refine lv_aload_n hx hb dX0_share_32 rfl (lv_at hl 1 rfl) ?_
      refine lv_iload_n hx hb dX0_share_33 rfl (lv_at hl 3 rfl) ?_
      obtain ⟨r9, y8, h⟩ := t_b1 h
      refine c_vi hx hb hml hown hts hK hw hS (fun _ h => h) (As := [.int p1]) (rest := []) (c_X0_readFromLimit hcv (g := g) (hg := hg) (i := i) (hi := hi) (M0 := gs M0 g m) (m := m) (hm := gs_at) y8) cf_X0_readFromLimit k_283 rfl rfl ⟨Nat.le_of_ble_eq_true rfl, Nat.le_of_ble_eq_true rfl⟩ (r_recv hK hw (v_bk hg hi) (E_bk hg hi) rfl) rfl hl.1 rfl (Nat.le_of_ble_eq_true rfl) ⟨Nat.le_refl _, Nat.le_refl _⟩ dX0_share_34 (fun H locs hw hS => ?_)
      refine lv_iload_n hx hb dX0_share_37 rfl (lv_at hl 4 rfl) ?_
      refine lv_iload_n hx hb dX0_share_38 rfl (lv_at hl 3 rfl) ?_
      refine lv_icmp_lt (tgt := 47) hx hb dX0_share_39 (by decide) (fun q10 => ?_) (fun q10 => ?_)
      · replace h := t_pos h q10
        refine lv_iconst (v := nI 0) hx hb dX0_share_47 (by decide) ?_
        refine lv_iadd hx hb dX0_share_48 ?_
        have e1 := Option.some.inj h
        exact e_i hx hb hr hlk hw hS e1 (gs_same hm) dX0_share_49
      · replace h := t_neg h q10
        refine lv_iload hx hb dX0_share_42 (lv_at hl 0 rfl) ?_
        refine lv_goto (tgt := 48) hx hb dX0_share_44 (by decide) ?_
        refine lv_iadd hx hb dX0_share_48 ?_
        have e1 := Option.some.inj h
        exact e_i hx hb hr hlk hw hS e1 (gs_same hm) dX0_share_49
    · replace h := t_neg h q3
      by_cases q4 : p0 = (nI 2)
      · replace h := t_pos h q4
        refine lv_tableIn (off := 43) (tgt := 50) hx hb dX0_share_7 (by rw [q4]; decide) (by rw [q4]; decide) (by rw [q4]; rfl) (by decide) ?_
        refine lv_iload hx hb dX0_share_50 (lv_at hl 0 rfl) ?_
        refine lv_if_le (tgt := 66) hx hb dX0_share_52 (by decide) (fun q7 => ?_) (fun q7 => ?_)
        · replace h := t_pos h q7
          refine lv_aload_n hx hb dX0_share_66 rfl (lv_at hl 1 rfl) ?_
          refine r_get hx hb hts hown hK hw (v_bk hg hi) gs_atc (E_bk hg hi) inX0 rfl 7 (by decide) k_94 rfl rfl dX0_share_67 ?_
          have e1 := Option.some.inj h
          exact e_i hx hb hr hlk hw hS e1 (gs_same hm) dX0_share_70
        · replace h := t_neg h q7
          refine lv_aload_n hx hb dX0_share_55 rfl (lv_at hl 1 rfl) ?_
          refine r_get hx hb hts hown hK hw (v_bk hg hi) gs_atc (E_bk hg hi) inX0 rfl 7 (by decide) k_94 rfl rfl dX0_share_56 ?_
          refine lv_iload_n hx hb dX0_share_59 rfl (lv_at hl 4 rfl) ?_
          refine r_min hx hb hts (hml.trans hl.1.symm) hown k_287 k_270 k_8 k_271 (Nat.le_of_ble_eq_true rfl) (Nat.le_of_ble_eq_true rfl) (Nat.le_of_ble_eq_true rfl) (Nat.le_of_ble_eq_true rfl) dX0_share_60 ?_
          refine lv_goto (tgt := 70) hx hb dX0_share_63 (by decide) ?_
          have e1 := Option.some.inj h
          exact e_i hx hb hr hlk hw hS e1 (gs_same hm) dX0_share_70
      · replace h := t_neg h q4
        by_cases q5 : p0 = (nI 3)
        · replace h := t_pos h q5
          refine lv_tableIn (off := 64) (tgt := 71) hx hb dX0_share_7 (by rw [q5]; decide) (by rw [q5]; decide) (by rw [q5]; rfl) (by decide) ?_
          refine lv_iload hx hb dX0_share_71 (lv_at hl 0 rfl) ?_
          refine lv_if_le (tgt := 87) hx hb dX0_share_73 (by decide) (fun q6 => ?_) (fun q6 => ?_)
          · replace h := t_pos h q6
            refine lv_aload_n hx hb dX0_share_87 rfl (lv_at hl 1 rfl) ?_
            refine r_get hx hb hts hown hK hw (v_bk hg hi) gs_atc (E_bk hg hi) inX0 rfl 8 (by decide) k_95 rfl rfl dX0_share_88 ?_
            have e1 := Option.some.inj h
            exact e_i hx hb hr hlk hw hS e1 (gs_same hm) dX0_share_91
          · replace h := t_neg h q6
            refine lv_aload_n hx hb dX0_share_76 rfl (lv_at hl 1 rfl) ?_
            refine r_get hx hb hts hown hK hw (v_bk hg hi) gs_atc (E_bk hg hi) inX0 rfl 8 (by decide) k_95 rfl rfl dX0_share_77 ?_
            refine lv_iload_n hx hb dX0_share_80 rfl (lv_at hl 4 rfl) ?_
            refine r_max hx hb hts (hml.trans hl.1.symm) hown k_288 k_273 k_8 k_274 (Nat.le_of_ble_eq_true rfl) (Nat.le_of_ble_eq_true rfl) (Nat.le_of_ble_eq_true rfl) (Nat.le_of_ble_eq_true rfl) dX0_share_81 ?_
            refine lv_goto (tgt := 91) hx hb dX0_share_84 (by decide) ?_
            have e1 := Option.some.inj h
            exact e_i hx hb hr hlk hw hS e1 (gs_same hm) dX0_share_91
        · replace h := t_neg h q5
          refine lv_tableOut (tgt := 92) hx hb dX0_share_7 (tab_out (lo := 1) (n := 3) (by decide) (lt_s (lt_s (lt_s lt_0 q3) q4) q5)) (by decide) ?_
          refine lv_aload_n hx hb dX0_share_92 rfl (lv_at hl 1 rfl) ?_
          refine r_get hx hb hts hown hK hw (v_bk hg hi) gs_atc (E_bk hg hi) inX0 rfl 6 (by decide) k_91 rfl rfl dX0_share_93 ?_
          refine lv_iload hx hb dX0_share_96 (lv_at hl 0 rfl) ?_
          refine lv_iload_n hx hb dX0_share_98 rfl (lv_at hl 4 rfl) ?_
          refine lv_imul hx hb dX0_share_99 ?_
          refine lv_iadd hx hb dX0_share_100 ?_
          have e1 := Option.some.inj h
          exact e_i hx hb hr hlk hw hS e1 (gs_same hm) dX0_share_101
  exact main _ _ hw hS ls hl

theorem cf_X1_append : cfV RX1 yX1_append cX1_append 2 none 1 := ⟨⟨k_427, k_428, k_2, k_429⟩, by decide +kernel⟩
def f_X1_append (m : SM) (p0 : Int32) : Option (Int32 × SM) :=
  (if (nI 80) ≤ (m 0 2) then some (0, m) else gd (m 0 2) 80 (lt1 (up m 1 (m 0 2).toNatClampNeg (vp_nar .char p0)) fun m4 => lt1 (up m4 0 2 ((m4 0 2) + (nI 1))) fun m6 => some (0, m6)))
set_option maxHeartbeats 4000000 in
set_option maxRecDepth 100000 in
theorem c_X1_append {l : Launch} {D : va_G} {cy : Nat → ClassId} {ad : Nat → Nat → Nat} (hcv : CV ad) {M0 : MM} {m : SM} (hm : M0 7 = m) {p0 : Int32} {r : Int32} {x : SM} (h : f_X1_append m p0 = some (r, x)) : Met l yX1_append (.code yX1_append cX1_append 2 none :: TB) ({ frames := 0, cells := 0, slots := 0, locals := 0 } : Room) (PW D cy ad M0 [.ref (ad 7 0), .int p0]) (QV D cy ad (gs M0 7 x)) 0 0 (AD ad) := by
  refine m_in (by decide +kernel) (Nat.le_of_ble_eq_true rfl) ?_
  intro p e s md args below meth c hC hw hS ls hl
  obtain ⟨hx, hb, hr, hml, hown, hts, hK, hlk⟩ := hC
  have hl : lv_has ls 2 [(0, .ref (ad 7 0)), (1, .int p0)] := hl
  rw [← gs_same hm] at hw
  unfold f_X1_append at h
  have main : JL p l e ({ frames := 0, cells := 0, slots := 0, locals := 0 } : Room) s md args below meth c D cy ad (MQ below (QV D cy ad (gs M0 7 x)) args s 0 0 (AD ad)) (gs M0 7 m) 2 [(0, .ref (ad 7 0)), (1, .int p0)] 0 [] := by
    intro H locs hw hS ls hl
    refine lv_aload_n hx hb dX1_append_0 rfl (lv_at hl 0 rfl) ?_
    refine r_get hx hb hts hown hK hw (v_tx (by decide)) gs_atc E_tx inX1 rfl 2 (by decide) k_26 rfl rfl dX1_append_1 ?_
    refine lv_bipush (v := nI 80) hx hb dX1_append_4 (by decide) ?_
    refine lv_icmp_ge (tgt := 29) hx hb dX1_append_6 (by decide) (fun q1 => ?_) (fun q1 => ?_)
    · replace h := t_pos h q1
      have e1 := (t_ret h).1
      have e2 := (t_ret h).2
      exact e_v hx hb hr hlk hw hS (by rw [e2]) dX1_append_29
    · replace h := t_neg h q1
      refine lv_aload_n hx hb dX1_append_9 rfl (lv_at hl 0 rfl) ?_
      refine r_get hx hb hts hown hK hw (v_tx (by decide)) gs_atc E_tx inX1 rfl 0 (by decide) k_23 rfl rfl dX1_append_10 ?_
      refine lv_aload_n hx hb dX1_append_13 rfl (lv_at hl 0 rfl) ?_
      refine r_get hx hb hts hown hK hw (v_tx (by decide)) gs_atc E_tx inX1 rfl 2 (by decide) k_26 rfl rfl dX1_append_14 ?_
      refine lv_iload_n hx hb dX1_append_17 rfl (lv_at hl 1 rfl) ?_
      obtain ⟨q2, h⟩ := t_gd h
      obtain ⟨m4, e3, h⟩ := t_lt h
      refine r_cast hx hb hK hcv hw hS (v_tx (by decide)) gs_atc (fun _ => E_tc) q2 (gs_up e3) dX1_append_18 (fun H locs hw hS => ?_)
      refine lv_aload_n hx hb dX1_append_19 rfl (lv_at hl 0 rfl) ?_
      refine lv_dup hx hb dX1_append_20 rfl ?_
      refine r_get hx hb hts hown hK hw (v_tx (by decide)) gs_atc E_tx inX1 rfl 2 (by decide) k_26 rfl rfl dX1_append_21 ?_
      refine lv_iconst (v := nI 1) hx hb dX1_append_24 (by decide) ?_
      refine lv_iadd hx hb dX1_append_25 ?_
      obtain ⟨m6, e5, h⟩ := t_lt h
      refine r_put hx hb hts hown hK hcv hw hS (v_tx (by decide)) gs_atc E_tx inX1 rfl tyX1 tyX1_ok nmX1 2 (by decide) k_26 rfl rfl rfl rfl (Nat.le_of_ble_eq_true rfl) E_tx (gs_up e5) dX1_append_26 (fun H locs hw hS => ?_)
      have e1 := (t_ret h).1
      have e2 := (t_ret h).2
      exact e_v hx hb hr hlk hw hS (by rw [e2]) dX1_append_29
  exact main _ _ hw hS ls hl

theorem cf_X1_takeDigit : cfV RX1 yX1_takeDigit cX1_takeDigit 4 (some .int) 2 := ⟨⟨k_445, k_446, k_2, k_447⟩, by decide +kernel⟩
def f_X1_takeDigit (m : SM) (p0 : Int32) (p1 : Int32) : Option (Int32 × SM) :=
  (if (m 0 2) ≤ (m 0 3) then some ((-1 : Int32), m) else gd (m 0 3) 80 ((if (m 1 (m 0 3).toNatClampNeg) < p0 then some ((-1 : Int32), m) else gd (m 0 3) 80 ((if (m 1 (m 0 3).toNatClampNeg) ≤ p1 then gd (m 0 3) 80 (lt1 (up m 0 3 ((m 0 3) + (nI 1))) fun m8 => some (((m 1 (m 0 3).toNatClampNeg) - (nI 48)), m8)) else some ((-1 : Int32), m))))))
set_option maxHeartbeats 4000000 in
set_option maxRecDepth 100000 in
theorem c_X1_takeDigit {l : Launch} {D : va_G} {cy : Nat → ClassId} {ad : Nat → Nat → Nat} (hcv : CV ad) {M0 : MM} {m : SM} (hm : M0 7 = m) {p0 p1 : Int32} {r : Int32} {x : SM} (h : f_X1_takeDigit m p0 p1 = some (r, x)) : Met l yX1_takeDigit (.code yX1_takeDigit cX1_takeDigit 4 (some .int) :: TB) ({ frames := 0, cells := 0, slots := 0, locals := 0 } : Room) (PW D cy ad M0 [.ref (ad 7 0), .int p0, .int p1]) (QI D cy ad r (gs M0 7 x)) 0 0 (AD ad) := by
  refine m_in (by decide +kernel) (Nat.le_of_ble_eq_true rfl) ?_
  intro p e s md args below meth c hC hw hS ls hl
  obtain ⟨hx, hb, hr, hml, hown, hts, hK, hlk⟩ := hC
  have hl : lv_has ls 4 [(0, .ref (ad 7 0)), (1, .int p0), (2, .int p1)] := hl
  rw [← gs_same hm] at hw
  unfold f_X1_takeDigit at h
  have main : JL p l e ({ frames := 0, cells := 0, slots := 0, locals := 0 } : Room) s md args below meth c D cy ad (MQ below (QI D cy ad r (gs M0 7 x)) args s 0 0 (AD ad)) (gs M0 7 m) 4 [(0, .ref (ad 7 0)), (1, .int p0), (2, .int p1)] 0 [] := by
    intro H locs hw hS ls hl
    refine lv_aload_n hx hb dX1_takeDigit_0 rfl (lv_at hl 0 rfl) ?_
    refine r_get hx hb hts hown hK hw (v_tx (by decide)) gs_atc E_tx inX1 rfl 3 (by decide) k_29 rfl rfl dX1_takeDigit_1 ?_
    refine lv_aload_n hx hb dX1_takeDigit_4 rfl (lv_at hl 0 rfl) ?_
    refine r_get hx hb hts hown hK hw (v_tx (by decide)) gs_atc E_tx inX1 rfl 2 (by decide) k_26 rfl rfl dX1_takeDigit_5 ?_
    refine lv_icmp_ge (tgt := 37) hx hb dX1_takeDigit_8 (by decide) (fun q1 => ?_) (fun q1 => ?_)
    · replace h := t_pos h q1
      refine lv_iconst (v := -1) hx hb dX1_takeDigit_37 (by decide) ?_
      have e1 := (t_ret h).1
      have e2 := (t_ret h).2
      exact e_i hx hb hr hlk hw hS e1 (by rw [e2]) dX1_takeDigit_38
    · replace h := t_neg h q1
      refine lv_aload_n hx hb dX1_takeDigit_11 rfl (lv_at hl 0 rfl) ?_
      refine r_get hx hb hts hown hK hw (v_tx (by decide)) gs_atc E_tx inX1 rfl 0 (by decide) k_23 rfl rfl dX1_takeDigit_12 ?_
      refine lv_aload_n hx hb dX1_takeDigit_15 rfl (lv_at hl 0 rfl) ?_
      refine r_get hx hb hts hown hK hw (v_tx (by decide)) gs_atc E_tx inX1 rfl 3 (by decide) k_29 rfl rfl dX1_takeDigit_16 ?_
      obtain ⟨q2, h⟩ := t_gd h
      refine r_cald hx hb hK hw (v_tx (by decide)) gs_atc E_tc q2 dX1_takeDigit_19 ?_
      refine lv_iload_n hx hb dX1_takeDigit_20 rfl (lv_at hl 1 rfl) ?_
      refine lv_icmp_lt (tgt := 37) hx hb dX1_takeDigit_21 (by decide) (fun q3 => ?_) (fun q3 => ?_)
      · replace h := t_pos h q3
        refine lv_iconst (v := -1) hx hb dX1_takeDigit_37 (by decide) ?_
        have e1 := (t_ret h).1
        have e2 := (t_ret h).2
        exact e_i hx hb hr hlk hw hS e1 (by rw [e2]) dX1_takeDigit_38
      · replace h := t_neg h q3
        refine lv_aload_n hx hb dX1_takeDigit_24 rfl (lv_at hl 0 rfl) ?_
        refine r_get hx hb hts hown hK hw (v_tx (by decide)) gs_atc E_tx inX1 rfl 0 (by decide) k_23 rfl rfl dX1_takeDigit_25 ?_
        refine lv_aload_n hx hb dX1_takeDigit_28 rfl (lv_at hl 0 rfl) ?_
        refine r_get hx hb hts hown hK hw (v_tx (by decide)) gs_atc E_tx inX1 rfl 3 (by decide) k_29 rfl rfl dX1_takeDigit_29 ?_
        obtain ⟨q4, h⟩ := t_gd h
        refine r_cald hx hb hK hw (v_tx (by decide)) gs_atc E_tc q4 dX1_takeDigit_32 ?_
        refine lv_iload_n hx hb dX1_takeDigit_33 rfl (lv_at hl 2 rfl) ?_
        refine lv_icmp_le (tgt := 39) hx hb dX1_takeDigit_34 (by decide) (fun q5 => ?_) (fun q5 => ?_)
        · replace h := t_pos h q5
          refine lv_aload_n hx hb dX1_takeDigit_39 rfl (lv_at hl 0 rfl) ?_
          refine r_get hx hb hts hown hK hw (v_tx (by decide)) gs_atc E_tx inX1 rfl 0 (by decide) k_23 rfl rfl dX1_takeDigit_40 ?_
          refine lv_aload_n hx hb dX1_takeDigit_43 rfl (lv_at hl 0 rfl) ?_
          refine r_get hx hb hts hown hK hw (v_tx (by decide)) gs_atc E_tx inX1 rfl 3 (by decide) k_29 rfl rfl dX1_takeDigit_44 ?_
          obtain ⟨q6, h⟩ := t_gd h
          refine r_cald hx hb hK hw (v_tx (by decide)) gs_atc E_tc q6 dX1_takeDigit_47 ?_
          refine lv_bipush (v := nI 48) hx hb dX1_takeDigit_48 (by decide) ?_
          refine lv_isub hx hb dX1_takeDigit_50 ?_
          refine lv_istore_n (lv' := [(3, .int ((m 1 (m 0 3).toNatClampNeg) - (nI 48))), (0, .ref (ad 7 0)), (1, .int p0), (2, .int p1)]) hx hb dX1_takeDigit_51 rfl hl (by decide) rfl (fun ls hl => ?_)
          refine lv_aload_n hx hb dX1_takeDigit_52 rfl (lv_at hl 1 rfl) ?_
          refine lv_dup hx hb dX1_takeDigit_53 rfl ?_
          refine r_get hx hb hts hown hK hw (v_tx (by decide)) gs_atc E_tx inX1 rfl 3 (by decide) k_29 rfl rfl dX1_takeDigit_54 ?_
          refine lv_iconst (v := nI 1) hx hb dX1_takeDigit_57 (by decide) ?_
          refine lv_iadd hx hb dX1_takeDigit_58 ?_
          obtain ⟨m8, e7, h⟩ := t_lt h
          refine r_put hx hb hts hown hK hcv hw hS (v_tx (by decide)) gs_atc E_tx inX1 rfl tyX1 tyX1_ok nmX1 3 (by decide) k_29 rfl rfl rfl rfl (Nat.le_of_ble_eq_true rfl) E_tx (gs_up e7) dX1_takeDigit_59 (fun H locs hw hS => ?_)
          refine lv_iload_n hx hb dX1_takeDigit_62 rfl (lv_at hl 0 rfl) ?_
          have e1 := (t_ret h).1
          have e2 := (t_ret h).2
          exact e_i hx hb hr hlk hw hS e1 (by rw [e2]) dX1_takeDigit_63
        · replace h := t_neg h q5
          refine lv_iconst (v := -1) hx hb dX1_takeDigit_37 (by decide) ?_
          have e1 := (t_ret h).1
          have e2 := (t_ret h).2
          exact e_i hx hb hr hlk hw hS e1 (by rw [e2]) dX1_takeDigit_38
  exact main _ _ hw hS ls hl

theorem cf_X1_takeSign : cfV RX1 yX1_takeSign cX1_takeSign 2 (some .boolean) 1 := ⟨⟨k_449, k_450, k_2, k_451⟩, by decide +kernel⟩
def f_X1_takeSign (m : SM) (p0 : Int32) : Option (Int32 × SM) :=
  (if (m 0 2) ≤ (m 0 3) then some ((nI 0), m) else gd (m 0 3) 80 ((if (m 1 (m 0 3).toNatClampNeg) = p0 then lt1 (up m 0 3 ((m 0 3) + (nI 1))) fun m5 => some ((nI 1), m5) else some ((nI 0), m))))
set_option maxHeartbeats 4000000 in
set_option maxRecDepth 100000 in
theorem c_X1_takeSign {l : Launch} {D : va_G} {cy : Nat → ClassId} {ad : Nat → Nat → Nat} (hcv : CV ad) {M0 : MM} {m : SM} (hm : M0 7 = m) {p0 : Int32} {r : Int32} {x : SM} (h : f_X1_takeSign m p0 = some (r, x)) : Met l yX1_takeSign (.code yX1_takeSign cX1_takeSign 2 (some .boolean) :: TB) ({ frames := 0, cells := 0, slots := 0, locals := 0 } : Room) (PW D cy ad M0 [.ref (ad 7 0), .int p0]) (QI D cy ad r (gs M0 7 x)) 0 0 (AD ad) := by
  refine m_in (by decide +kernel) (Nat.le_of_ble_eq_true rfl) ?_
  intro p e s md args below meth c hC hw hS ls hl
  obtain ⟨hx, hb, hr, hml, hown, hts, hK, hlk⟩ := hC
  have hl : lv_has ls 2 [(0, .ref (ad 7 0)), (1, .int p0)] := hl
  rw [← gs_same hm] at hw
  unfold f_X1_takeSign at h
  have main : JL p l e ({ frames := 0, cells := 0, slots := 0, locals := 0 } : Room) s md args below meth c D cy ad (MQ below (QI D cy ad r (gs M0 7 x)) args s 0 0 (AD ad)) (gs M0 7 m) 2 [(0, .ref (ad 7 0)), (1, .int p0)] 0 [] := by
    intro H locs hw hS ls hl
    refine lv_aload_n hx hb dX1_takeSign_0 rfl (lv_at hl 0 rfl) ?_
    refine r_get hx hb hts hown hK hw (v_tx (by decide)) gs_atc E_tx inX1 rfl 3 (by decide) k_29 rfl rfl dX1_takeSign_1 ?_
    refine lv_aload_n hx hb dX1_takeSign_4 rfl (lv_at hl 0 rfl) ?_
    refine r_get hx hb hts hown hK hw (v_tx (by decide)) gs_atc E_tx inX1 rfl 2 (by decide) k_26 rfl rfl dX1_takeSign_5 ?_
    refine lv_icmp_ge (tgt := 24) hx hb dX1_takeSign_8 (by decide) (fun q1 => ?_) (fun q1 => ?_)
    · replace h := t_pos h q1
      refine lv_iconst (v := nI 0) hx hb dX1_takeSign_24 (by decide) ?_
      have e1 := (t_ret h).1
      have e2 := (t_ret h).2
      exact e_z hx hb hr hlk (Or.inl rfl) hw hS e1 (by rw [e2]) dX1_takeSign_25
    · replace h := t_neg h q1
      refine lv_aload_n hx hb dX1_takeSign_11 rfl (lv_at hl 0 rfl) ?_
      refine r_get hx hb hts hown hK hw (v_tx (by decide)) gs_atc E_tx inX1 rfl 0 (by decide) k_23 rfl rfl dX1_takeSign_12 ?_
      refine lv_aload_n hx hb dX1_takeSign_15 rfl (lv_at hl 0 rfl) ?_
      refine r_get hx hb hts hown hK hw (v_tx (by decide)) gs_atc E_tx inX1 rfl 3 (by decide) k_29 rfl rfl dX1_takeSign_16 ?_
      obtain ⟨q2, h⟩ := t_gd h
      refine r_cald hx hb hK hw (v_tx (by decide)) gs_atc E_tc q2 dX1_takeSign_19 ?_
      refine lv_iload_n hx hb dX1_takeSign_20 rfl (lv_at hl 1 rfl) ?_
      refine lv_icmp_eq (tgt := 26) hx hb dX1_takeSign_21 (by decide) (fun q3 => ?_) (fun q3 => ?_)
      · replace h := t_pos h q3
        refine lv_aload_n hx hb dX1_takeSign_26 rfl (lv_at hl 0 rfl) ?_
        refine lv_dup hx hb dX1_takeSign_27 rfl ?_
        refine r_get hx hb hts hown hK hw (v_tx (by decide)) gs_atc E_tx inX1 rfl 3 (by decide) k_29 rfl rfl dX1_takeSign_28 ?_
        refine lv_iconst (v := nI 1) hx hb dX1_takeSign_31 (by decide) ?_
        refine lv_iadd hx hb dX1_takeSign_32 ?_
        obtain ⟨m5, e4, h⟩ := t_lt h
        refine r_put hx hb hts hown hK hcv hw hS (v_tx (by decide)) gs_atc E_tx inX1 rfl tyX1 tyX1_ok nmX1 3 (by decide) k_29 rfl rfl rfl rfl (Nat.le_of_ble_eq_true rfl) E_tx (gs_up e4) dX1_takeSign_33 (fun H locs hw hS => ?_)
        refine lv_iconst (v := nI 1) hx hb dX1_takeSign_36 (by decide) ?_
        have e1 := (t_ret h).1
        have e2 := (t_ret h).2
        exact e_z hx hb hr hlk (Or.inr rfl) hw hS e1 (by rw [e2]) dX1_takeSign_37
      · replace h := t_neg h q3
        refine lv_iconst (v := nI 0) hx hb dX1_takeSign_24 (by decide) ?_
        have e1 := (t_ret h).1
        have e2 := (t_ret h).2
        exact e_z hx hb hr hlk (Or.inl rfl) hw hS e1 (by rw [e2]) dX1_takeSign_25
  exact main _ _ hw hS ls hl

theorem cf_X1_takeNumber : cfV RX1 yX1_takeNumber cX1_takeNumber 4 (some .int) 0 := ⟨⟨k_453, k_454, k_2, k_455⟩, by decide +kernel⟩
def f_X1_takeNumber_L11 : Nat → SM → Int32 → Int32 → Option (Int32 × SM)
  | 0, _, _, _ => none
  | n + 1, m, x1, x2 => (if (nI 3) ≤ x2 then some (x1, m) else (if x1 ≤ (nI 0) then some (x1, m) else bd (f_X1_takeDigit m (nI 48) (nI 57)) fun r4 m5 => (if (nI 0) ≤ r4 then f_X1_takeNumber_L11 n m5 (((nI 10) * x1) + r4) (x2 + (nI 1)) else some (x1, m5))))
def f_X1_takeNumber (m : SM) : Option (Int32 × SM) :=
  bd (f_X1_takeDigit m (nI 48) (nI 57)) fun r2 m3 => f_X1_takeNumber_L11 FU m3 r2 (nI 1)
set_option maxHeartbeats 4000000 in
set_option maxRecDepth 100000 in
theorem c_X1_takeNumber {l : Launch} {D : va_G} {cy : Nat → ClassId} {ad : Nat → Nat → Nat} (hcv : CV ad) {M0 : MM} {m : SM} (hm : M0 7 = m) {r : Int32} {x : SM} (h : f_X1_takeNumber m = some (r, x)) : Met l yX1_takeNumber (.code yX1_takeNumber cX1_takeNumber 4 (some .int) :: TB) ({ frames := 1, cells := 0, slots := 0, locals := 23 } : Room) (PW D cy ad M0 [.ref (ad 7 0)]) (QI D cy ad r (gs M0 7 x)) 0 0 (AD ad) := by
  refine m_in (by decide +kernel) (Nat.le_of_ble_eq_true rfl) ?_
  intro p e s md args below meth c hC hw hS ls hl
  obtain ⟨hx, hb, hr, hml, hown, hts, hK, hlk⟩ := hC
  have hl : lv_has ls 4 [(0, .ref (ad 7 0))] := hl
  rw [← gs_same hm] at hw
  have L11 : ∀ (n : Nat), ∀ (m : SM) (x1 : Int32) (x2 : Int32), f_X1_takeNumber_L11 n m x1 x2 = some (r, x) → JL p l e ({ frames := 1, cells := 0, slots := 0, locals := 23 } : Room) s md args below meth c D cy ad (MQ below (QI D cy ad r (gs M0 7 x)) args s 0 0 (AD ad)) (gs M0 7 m) 4 [(0, .ref (ad 7 0)), (1, .int x1), (2, .int x2)] 11 [] := by
    intro n
    induction n with
    | zero =>
      intro m x1 x2 h
      cases h
    | succ n ih =>
      intro m x1 x2 h H locs hw hS ls hl
      rw [f_X1_takeNumber_L11.eq_2] at h
      refine lv_iload_n hx hb dX1_takeNumber_11 rfl (lv_at hl 2 rfl) ?_
      refine lv_iconst (v := nI 3) hx hb dX1_takeNumber_12 (by decide) ?_
      refine lv_icmp_ge (tgt := 48) hx hb dX1_takeNumber_13 (by decide) (fun q1 => ?_) (fun q1 => ?_)
      · replace h := t_pos h q1
        refine lv_iload_n hx hb dX1_takeNumber_48 rfl (lv_at hl 1 rfl) ?_
        have e1 := (t_ret h).1
        have e2 := (t_ret h).2
        exact e_i hx hb hr hlk hw hS e1 (by rw [e2]) dX1_takeNumber_49
      · replace h := t_neg h q1
        refine lv_iload_n hx hb dX1_takeNumber_16 rfl (lv_at hl 1 rfl) ?_
        refine lv_if_le (tgt := 48) hx hb dX1_takeNumber_17 (by decide) (fun q2 => ?_) (fun q2 => ?_)
        · replace h := t_pos h q2
          refine lv_iload_n hx hb dX1_takeNumber_48 rfl (lv_at hl 1 rfl) ?_
          have e1 := (t_ret h).1
          have e2 := (t_ret h).2
          exact e_i hx hb hr hlk hw hS e1 (by rw [e2]) dX1_takeNumber_49
        · replace h := t_neg h q2
          refine lv_aload_n hx hb dX1_takeNumber_20 rfl (lv_at hl 0 rfl) ?_
          refine lv_bipush (v := nI 48) hx hb dX1_takeNumber_21 (by decide) ?_
          refine lv_bipush (v := nI 57) hx hb dX1_takeNumber_23 (by decide) ?_
          obtain ⟨r4, m5, y3, h⟩ := t_bd h
          refine c_vi hx hb hml hown hts hK hw hS (fun _ h => h) (As := [.int (nI 48), .int (nI 57)]) (rest := []) (c_X1_takeDigit hcv (M0 := gs M0 7 m) (m := m) (hm := gs_at) y3) cf_X1_takeDigit k_444 rfl rfl ⟨Nat.le_of_ble_eq_true rfl, Nat.le_of_ble_eq_true rfl⟩ (r_recv hK hw (v_tx (by decide)) E_tx rfl) rfl hl.1 rfl (Nat.le_of_ble_eq_true rfl) ⟨Nat.le_refl _, Nat.le_refl _⟩ dX1_takeNumber_25 (fun H locs hw hS => ?_)
          rw [gs_gs] at hw
          refine lv_istore_n (lv' := [(3, .int r4), (0, .ref (ad 7 0)), (1, .int x1), (2, .int x2)]) hx hb dX1_takeNumber_28 rfl hl (by decide) rfl (fun ls hl => ?_)
          refine lv_iload_n hx hb dX1_takeNumber_29 rfl (lv_at hl 0 rfl) ?_
          refine lv_if_ge (tgt := 35) hx hb dX1_takeNumber_30 (by decide) (fun q6 => ?_) (fun q6 => ?_)
          · replace h := t_pos h q6
            refine lv_bipush (v := nI 10) hx hb dX1_takeNumber_35 (by decide) ?_
            refine lv_iload_n hx hb dX1_takeNumber_37 rfl (lv_at hl 2 rfl) ?_
            refine lv_imul hx hb dX1_takeNumber_38 ?_
            refine lv_iload_n hx hb dX1_takeNumber_39 rfl (lv_at hl 0 rfl) ?_
            refine lv_iadd hx hb dX1_takeNumber_40 ?_
            refine lv_istore_n (lv' := [(1, .int (((nI 10) * x1) + r4)), (3, .int r4), (0, .ref (ad 7 0)), (2, .int x2)]) hx hb dX1_takeNumber_41 rfl hl (by decide) rfl (fun ls hl => ?_)
            refine lv_iinc (v := (x2 + (nI 1))) (lv' := [(2, .int (x2 + (nI 1))), (1, .int (((nI 10) * x1) + r4)), (3, .int r4), (0, .ref (ad 7 0))]) hx hb dX1_takeNumber_42 hl (k := 3) rfl rfl (by decide) rfl (fun ls hl => ?_)
            refine lv_goto (tgt := 11) hx hb dX1_takeNumber_45 (by decide) ?_
            exact ih m5 (((nI 10) * x1) + r4) (x2 + (nI 1)) h H locs hw hS ls (lv_sub hl [3, 1, 0] rfl)
          · replace h := t_neg h q6
            refine lv_iload_n hx hb dX1_takeNumber_33 rfl (lv_at hl 2 rfl) ?_
            have e1 := (t_ret h).1
            have e2 := (t_ret h).2
            exact e_i hx hb hr hlk hw hS e1 (by rw [e2]) dX1_takeNumber_34
  unfold f_X1_takeNumber at h
  have main : JL p l e ({ frames := 1, cells := 0, slots := 0, locals := 23 } : Room) s md args below meth c D cy ad (MQ below (QI D cy ad r (gs M0 7 x)) args s 0 0 (AD ad)) (gs M0 7 m) 4 [(0, .ref (ad 7 0))] 0 [] := by
    intro H locs hw hS ls hl
    refine lv_aload_n hx hb dX1_takeNumber_0 rfl (lv_at hl 0 rfl) ?_
    refine lv_bipush (v := nI 48) hx hb dX1_takeNumber_1 (by decide) ?_
    refine lv_bipush (v := nI 57) hx hb dX1_takeNumber_3 (by decide) ?_
    obtain ⟨r2, m3, y1, h⟩ := t_bd h
    refine c_vi hx hb hml hown hts hK hw hS (fun _ h => h) (As := [.int (nI 48), .int (nI 57)]) (rest := []) (c_X1_takeDigit hcv (M0 := gs M0 7 m) (m := m) (hm := gs_at) y1) cf_X1_takeDigit k_444 rfl rfl ⟨Nat.le_of_ble_eq_true rfl, Nat.le_of_ble_eq_true rfl⟩ (r_recv hK hw (v_tx (by decide)) E_tx rfl) rfl hl.1 rfl (Nat.le_of_ble_eq_true rfl) ⟨Nat.le_refl _, Nat.le_refl _⟩ dX1_takeNumber_5 (fun H locs hw hS => ?_)
    rw [gs_gs] at hw
    refine lv_istore_n (lv' := [(1, .int r2), (0, .ref (ad 7 0))]) hx hb dX1_takeNumber_8 rfl hl (by decide) rfl (fun ls hl => ?_)
    refine lv_iconst (v := nI 1) hx hb dX1_takeNumber_9 (by decide) ?_
    refine lv_istore_n (lv' := [(2, .int (nI 1)), (1, .int r2), (0, .ref (ad 7 0))]) hx hb dX1_takeNumber_10 rfl hl (by decide) rfl (fun ls hl => ?_)
    exact L11 FU m3 r2 (nI 1) h H locs hw hS ls (lv_sub hl [2, 1, 0] rfl)
  exact main _ _ hw hS ls hl

theorem cf_X1_takeValues : cfV RX1 yX1_takeValues cX1_takeValues 3 (some .boolean) 0 := ⟨⟨k_457, k_458, k_2, k_459⟩, by decide +kernel⟩
def f_X1_takeValues_L28 (k7 : SM → Int32 → Option (Int32 × SM)) (m : SM) (x1 : Int32) : Option (Int32 × SM) :=
  bd (f_X1_takeNumber m) fun r2 m3 => (if (nI 0) ≤ r2 then gd x1 16 (lt1 (up m3 2 x1.toNatClampNeg r2) fun m7 => lt1 (up m7 0 7 ((m7 0 7) + (nI 1))) fun m9 => (if (m9 0 3) < (m9 0 2) then k7 m9 (x1 + (nI 1)) else some ((nI 1), m9))) else some ((nI 0), m3))
def f_X1_takeValues_L7 : Nat → SM → Int32 → Option (Int32 × SM)
  | 0, _, _ => none
  | n + 1, m, x1 => (if (nI 16) ≤ x1 then some ((nI 0), m) else (if x1 ≤ (nI 0) then f_X1_takeValues_L28 (f_X1_takeValues_L7 n) m x1 else bd (f_X1_takeSign m (nI 44)) fun r4 m5 => (if r4 = (nI 0) then some ((nI 0), m5) else f_X1_takeValues_L28 (f_X1_takeValues_L7 n) m5 x1)))
def f_X1_takeValues (m : SM) : Option (Int32 × SM) :=
  lt1 (up m 0 7 (nI 0)) fun m2 => f_X1_takeValues_L7 FU m2 (nI 0)
set_option maxHeartbeats 4000000 in
set_option maxRecDepth 100000 in
theorem c_X1_takeValues {l : Launch} {D : va_G} {cy : Nat → ClassId} {ad : Nat → Nat → Nat} (hcv : CV ad) {M0 : MM} {m : SM} (hm : M0 7 = m) {r : Int32} {x : SM} (h : f_X1_takeValues m = some (r, x)) : Met l yX1_takeValues (.code yX1_takeValues cX1_takeValues 3 (some .boolean) :: TB) ({ frames := 2, cells := 0, slots := 0, locals := 46 } : Room) (PW D cy ad M0 [.ref (ad 7 0)]) (QI D cy ad r (gs M0 7 x)) 0 0 (AD ad) := by
  refine m_in (by decide +kernel) (Nat.le_of_ble_eq_true rfl) ?_
  intro p e s md args below meth c hC hw hS ls hl
  obtain ⟨hx, hb, hr, hml, hown, hts, hK, hlk⟩ := hC
  have hl : lv_has ls 3 [(0, .ref (ad 7 0))] := hl
  rw [← gs_same hm] at hw
  have L28 : ∀ (k7 : SM → Int32 → Option (Int32 × SM)) (hk7 : ∀ (m : SM) (x1 : Int32), k7 m x1 = some (r, x) → JL p l e ({ frames := 2, cells := 0, slots := 0, locals := 46 } : Room) s md args below meth c D cy ad (MQ below (QI D cy ad r (gs M0 7 x)) args s 0 0 (AD ad)) (gs M0 7 m) 3 [(0, .ref (ad 7 0)), (1, .int x1)] 7 []), ∀ (m : SM) (x1 : Int32), f_X1_takeValues_L28 k7 m x1 = some (r, x) → JL p l e ({ frames := 2, cells := 0, slots := 0, locals := 46 } : Room) s md args below meth c D cy ad (MQ below (QI D cy ad r (gs M0 7 x)) args s 0 0 (AD ad)) (gs M0 7 m) 3 [(0, .ref (ad 7 0)), (1, .int x1)] 28 [] := by
    intro k7 hk7 m x1 h H locs hw hS ls hl
    unfold f_X1_takeValues_L28 at h
    refine lv_aload_n hx hb dX1_takeValues_28 rfl (lv_at hl 0 rfl) ?_
    obtain ⟨r2, m3, y1, h⟩ := t_bd h
    refine c_vi hx hb hml hown hts hK hw hS (fun _ h => h) (As := []) (rest := []) (c_X1_takeNumber hcv (M0 := gs M0 7 m) (m := m) (hm := gs_at) y1) cf_X1_takeNumber k_452 rfl rfl ⟨Nat.le_of_ble_eq_true rfl, Nat.le_of_ble_eq_true rfl⟩ (r_recv hK hw (v_tx (by decide)) E_tx rfl) rfl hl.1 rfl (Nat.le_of_ble_eq_true rfl) ⟨Nat.le_refl _, Nat.le_refl _⟩ dX1_takeValues_29 (fun H locs hw hS => ?_)
    rw [gs_gs] at hw
    refine lv_istore_n (lv' := [(2, .int r2), (0, .ref (ad 7 0)), (1, .int x1)]) hx hb dX1_takeValues_32 rfl hl (by decide) rfl (fun ls hl => ?_)
    refine lv_iload_n hx hb dX1_takeValues_33 rfl (lv_at hl 0 rfl) ?_
    refine lv_if_ge (tgt := 39) hx hb dX1_takeValues_34 (by decide) (fun q4 => ?_) (fun q4 => ?_)
    · replace h := t_pos h q4
      refine lv_aload_n hx hb dX1_takeValues_39 rfl (lv_at hl 1 rfl) ?_
      refine r_get hx hb hts hown hK hw (v_tx (by decide)) gs_atc E_tx inX1 rfl 1 (by decide) k_24 rfl rfl dX1_takeValues_40 ?_
      refine lv_iload_n hx hb dX1_takeValues_43 rfl (lv_at hl 2 rfl) ?_
      refine lv_iload_n hx hb dX1_takeValues_44 rfl (lv_at hl 0 rfl) ?_
      obtain ⟨q5, h⟩ := t_gd h
      obtain ⟨m7, e6, h⟩ := t_lt h
      refine r_iast hx hb hK hcv hw hS (v_tx (by decide)) gs_atc (fun _ => E_tv) q5 (gs_up e6) dX1_takeValues_45 (fun H locs hw hS => ?_)
      refine lv_aload_n hx hb dX1_takeValues_46 rfl (lv_at hl 1 rfl) ?_
      refine lv_dup hx hb dX1_takeValues_47 rfl ?_
      refine r_get hx hb hts hown hK hw (v_tx (by decide)) gs_atc E_tx inX1 rfl 7 (by decide) k_37 rfl rfl dX1_takeValues_48 ?_
      refine lv_iconst (v := nI 1) hx hb dX1_takeValues_51 (by decide) ?_
      refine lv_iadd hx hb dX1_takeValues_52 ?_
      obtain ⟨m9, e8, h⟩ := t_lt h
      refine r_put hx hb hts hown hK hcv hw hS (v_tx (by decide)) gs_atc E_tx inX1 rfl tyX1 tyX1_ok nmX1 7 (by decide) k_37 rfl rfl rfl rfl (Nat.le_of_ble_eq_true rfl) E_tx (gs_up e8) dX1_takeValues_53 (fun H locs hw hS => ?_)
      refine lv_aload_n hx hb dX1_takeValues_56 rfl (lv_at hl 1 rfl) ?_
      refine r_get hx hb hts hown hK hw (v_tx (by decide)) gs_atc E_tx inX1 rfl 3 (by decide) k_29 rfl rfl dX1_takeValues_57 ?_
      refine lv_aload_n hx hb dX1_takeValues_60 rfl (lv_at hl 1 rfl) ?_
      refine r_get hx hb hts hown hK hw (v_tx (by decide)) gs_atc E_tx inX1 rfl 2 (by decide) k_26 rfl rfl dX1_takeValues_61 ?_
      refine lv_icmp_lt (tgt := 69) hx hb dX1_takeValues_64 (by decide) (fun q10 => ?_) (fun q10 => ?_)
      · replace h := t_pos h q10
        refine lv_iinc (v := (x1 + (nI 1))) (lv' := [(1, .int (x1 + (nI 1))), (2, .int r2), (0, .ref (ad 7 0))]) hx hb dX1_takeValues_69 hl (k := 2) rfl rfl (by decide) rfl (fun ls hl => ?_)
        refine lv_goto (tgt := 7) hx hb dX1_takeValues_72 (by decide) ?_
        exact hk7 m9 (x1 + (nI 1)) h H locs hw hS ls (lv_sub hl [2, 0] rfl)
      · replace h := t_neg h q10
        refine lv_iconst (v := nI 1) hx hb dX1_takeValues_67 (by decide) ?_
        have e1 := (t_ret h).1
        have e2 := (t_ret h).2
        exact e_z hx hb hr hlk (Or.inr rfl) hw hS e1 (by rw [e2]) dX1_takeValues_68
    · replace h := t_neg h q4
      refine lv_iconst (v := nI 0) hx hb dX1_takeValues_37 (by decide) ?_
      have e1 := (t_ret h).1
      have e2 := (t_ret h).2
      exact e_z hx hb hr hlk (Or.inl rfl) hw hS e1 (by rw [e2]) dX1_takeValues_38
  have L7 : ∀ (n : Nat), ∀ (m : SM) (x1 : Int32), f_X1_takeValues_L7 n m x1 = some (r, x) → JL p l e ({ frames := 2, cells := 0, slots := 0, locals := 46 } : Room) s md args below meth c D cy ad (MQ below (QI D cy ad r (gs M0 7 x)) args s 0 0 (AD ad)) (gs M0 7 m) 3 [(0, .ref (ad 7 0)), (1, .int x1)] 7 [] := by
    intro n
    induction n with
    | zero =>
      intro m x1 h
      cases h
    | succ n ih =>
      intro m x1 h H locs hw hS ls hl
      rw [f_X1_takeValues_L7.eq_2] at h
      refine lv_iload_n hx hb dX1_takeValues_7 rfl (lv_at hl 1 rfl) ?_
      refine lv_bipush (v := nI 16) hx hb dX1_takeValues_8 (by decide) ?_
      refine lv_icmp_ge (tgt := 75) hx hb dX1_takeValues_10 (by decide) (fun q1 => ?_) (fun q1 => ?_)
      · replace h := t_pos h q1
        refine lv_iconst (v := nI 0) hx hb dX1_takeValues_75 (by decide) ?_
        have e1 := (t_ret h).1
        have e2 := (t_ret h).2
        exact e_z hx hb hr hlk (Or.inl rfl) hw hS e1 (by rw [e2]) dX1_takeValues_76
      · replace h := t_neg h q1
        refine lv_iload_n hx hb dX1_takeValues_13 rfl (lv_at hl 1 rfl) ?_
        refine lv_if_le (tgt := 28) hx hb dX1_takeValues_14 (by decide) (fun q2 => ?_) (fun q2 => ?_)
        · replace h := t_pos h q2
          exact L28 (f_X1_takeValues_L7 n) ih m x1 h H locs hw hS ls (lv_sub hl [0, 1] rfl)
        · replace h := t_neg h q2
          refine lv_aload_n hx hb dX1_takeValues_17 rfl (lv_at hl 0 rfl) ?_
          refine lv_bipush (v := nI 44) hx hb dX1_takeValues_18 (by decide) ?_
          obtain ⟨r4, m5, y3, h⟩ := t_bd h
          refine c_vi hx hb hml hown hts hK hw hS (fun _ h => h) (As := [.int (nI 44)]) (rest := []) (c_X1_takeSign hcv (M0 := gs M0 7 m) (m := m) (hm := gs_at) y3) cf_X1_takeSign k_448 rfl rfl ⟨Nat.le_of_ble_eq_true rfl, Nat.le_of_ble_eq_true rfl⟩ (r_recv hK hw (v_tx (by decide)) E_tx rfl) rfl hl.1 rfl (Nat.le_of_ble_eq_true rfl) ⟨Nat.le_refl _, Nat.le_refl _⟩ dX1_takeValues_20 (fun H locs hw hS => ?_)
          rw [gs_gs] at hw
          refine lv_if_ne (tgt := 28) hx hb dX1_takeValues_23 (by decide) (fun q6 => ?_) (fun q6 => ?_)
          · replace h := t_neg h q6
            exact L28 (f_X1_takeValues_L7 n) ih m5 x1 h H locs hw hS ls (lv_sub hl [0, 1] rfl)
          · replace h := t_pos h q6
            refine lv_iconst (v := nI 0) hx hb dX1_takeValues_26 (by decide) ?_
            have e1 := (t_ret h).1
            have e2 := (t_ret h).2
            exact e_z hx hb hr hlk (Or.inl rfl) hw hS e1 (by rw [e2]) dX1_takeValues_27
  unfold f_X1_takeValues at h
  have main : JL p l e ({ frames := 2, cells := 0, slots := 0, locals := 46 } : Room) s md args below meth c D cy ad (MQ below (QI D cy ad r (gs M0 7 x)) args s 0 0 (AD ad)) (gs M0 7 m) 3 [(0, .ref (ad 7 0))] 0 [] := by
    intro H locs hw hS ls hl
    refine lv_aload_n hx hb dX1_takeValues_0 rfl (lv_at hl 0 rfl) ?_
    refine lv_iconst (v := nI 0) hx hb dX1_takeValues_1 (by decide) ?_
    obtain ⟨m2, e1, h⟩ := t_lt h
    refine r_put hx hb hts hown hK hcv hw hS (v_tx (by decide)) gs_atc E_tx inX1 rfl tyX1 tyX1_ok nmX1 7 (by decide) k_37 rfl rfl rfl rfl (Nat.le_of_ble_eq_true rfl) E_tx (gs_up e1) dX1_takeValues_2 (fun H locs hw hS => ?_)
    refine lv_iconst (v := nI 0) hx hb dX1_takeValues_5 (by decide) ?_
    refine lv_istore_n (lv' := [(1, .int (nI 0)), (0, .ref (ad 7 0))]) hx hb dX1_takeValues_6 rfl hl (by decide) rfl (fun ls hl => ?_)
    exact L7 FU m2 (nI 0) h H locs hw hS ls (lv_sub hl [1, 0] rfl)
  exact main _ _ hw hS ls hl

theorem cf_X1_parse : cfV RX1 yX1_parse cX1_parse 1 (some .boolean) 0 := ⟨⟨k_441, k_442, k_2, k_443⟩, by decide +kernel⟩
def f_X1_parse (m : SM) : Option (Int32 × SM) :=
  lt1 (up m 0 3 (nI 0)) fun m2 => bd (f_X1_takeDigit m2 (nI 48) (nI 51)) fun r4 m5 => lt1 (up m5 0 4 r4) fun m7 => (if (m7 0 4) < (nI 0) then some ((nI 0), m7) else bd (f_X1_takeSign m7 (nI 58)) fun r10 m11 => (if r10 = (nI 0) then some ((nI 0), m11) else bd (f_X1_takeNumber m11) fun r14 m15 => lt1 (up m15 0 5 r14) fun m17 => (if (m17 0 5) < (nI 0) then some ((nI 0), m17) else bd (f_X1_takeSign m17 (nI 45)) fun r20 m21 => (if r20 = (nI 0) then some ((nI 0), m21) else bd (f_X1_takeNumber m21) fun r24 m25 => lt1 (up m25 0 6 r24) fun m27 => (if (m27 0 6) < (nI 0) then some ((nI 0), m27) else bd (f_X1_takeSign m27 (nI 61)) fun r30 m31 => (if r30 = (nI 0) then some ((nI 0), m31) else bd (f_X1_takeValues m31) fun r34 m35 => gz r34 (some (r34, m35))))))))
set_option maxHeartbeats 4000000 in
set_option maxRecDepth 100000 in
theorem c_X1_parse {l : Launch} {D : va_G} {cy : Nat → ClassId} {ad : Nat → Nat → Nat} (hcv : CV ad) {M0 : MM} {m : SM} (hm : M0 7 = m) {r : Int32} {x : SM} (h : f_X1_parse m = some (r, x)) : Met l yX1_parse (.code yX1_parse cX1_parse 1 (some .boolean) :: TB) ({ frames := 3, cells := 0, slots := 0, locals := 68 } : Room) (PW D cy ad M0 [.ref (ad 7 0)]) (QI D cy ad r (gs M0 7 x)) 0 0 (AD ad) := by
  refine m_in (by decide +kernel) (Nat.le_of_ble_eq_true rfl) ?_
  intro p e s md args below meth c hC hw hS ls hl
  obtain ⟨hx, hb, hr, hml, hown, hts, hK, hlk⟩ := hC
  have hl : lv_has ls 1 [(0, .ref (ad 7 0))] := hl
  rw [← gs_same hm] at hw
  unfold f_X1_parse at h
  have main : JL p l e ({ frames := 3, cells := 0, slots := 0, locals := 68 } : Room) s md args below meth c D cy ad (MQ below (QI D cy ad r (gs M0 7 x)) args s 0 0 (AD ad)) (gs M0 7 m) 1 [(0, .ref (ad 7 0))] 0 [] := by
    intro H locs hw hS ls hl
    refine lv_aload_n hx hb dX1_parse_0 rfl (lv_at hl 0 rfl) ?_
    refine lv_iconst (v := nI 0) hx hb dX1_parse_1 (by decide) ?_
    obtain ⟨m2, e1, h⟩ := t_lt h
    refine r_put hx hb hts hown hK hcv hw hS (v_tx (by decide)) gs_atc E_tx inX1 rfl tyX1 tyX1_ok nmX1 3 (by decide) k_29 rfl rfl rfl rfl (Nat.le_of_ble_eq_true rfl) E_tx (gs_up e1) dX1_parse_2 (fun H locs hw hS => ?_)
    refine lv_aload_n hx hb dX1_parse_5 rfl (lv_at hl 0 rfl) ?_
    refine lv_aload_n hx hb dX1_parse_6 rfl (lv_at hl 0 rfl) ?_
    refine lv_bipush (v := nI 48) hx hb dX1_parse_7 (by decide) ?_
    refine lv_bipush (v := nI 51) hx hb dX1_parse_9 (by decide) ?_
    obtain ⟨r4, m5, y3, h⟩ := t_bd h
    refine c_vi hx hb hml hown hts hK hw hS (fun _ h => h) (As := [.int (nI 48), .int (nI 51)]) (rest := [.ref (ad 7 0)]) (c_X1_takeDigit hcv (M0 := gs M0 7 m2) (m := m2) (hm := gs_at) y3) cf_X1_takeDigit k_444 rfl rfl ⟨Nat.le_of_ble_eq_true rfl, Nat.le_of_ble_eq_true rfl⟩ (r_recv hK hw (v_tx (by decide)) E_tx rfl) rfl hl.1 rfl (Nat.le_of_ble_eq_true rfl) ⟨Nat.le_refl _, Nat.le_refl _⟩ dX1_parse_11 (fun H locs hw hS => ?_)
    rw [gs_gs] at hw
    obtain ⟨m7, e6, h⟩ := t_lt h
    refine r_put hx hb hts hown hK hcv hw hS (v_tx (by decide)) gs_atc E_tx inX1 rfl tyX1 tyX1_ok nmX1 4 (by decide) k_30 rfl rfl rfl rfl (Nat.le_of_ble_eq_true rfl) E_tx (gs_up e6) dX1_parse_14 (fun H locs hw hS => ?_)
    refine lv_aload_n hx hb dX1_parse_17 rfl (lv_at hl 0 rfl) ?_
    refine r_get hx hb hts hown hK hw (v_tx (by decide)) gs_atc E_tx inX1 rfl 4 (by decide) k_30 rfl rfl dX1_parse_18 ?_
    refine lv_if_lt (tgt := 33) hx hb dX1_parse_21 (by decide) (fun q8 => ?_) (fun q8 => ?_)
    · replace h := t_pos h q8
      refine lv_iconst (v := nI 0) hx hb dX1_parse_33 (by decide) ?_
      have e1 := (t_ret h).1
      have e2 := (t_ret h).2
      exact e_z hx hb hr hlk (Or.inl rfl) hw hS e1 (by rw [e2]) dX1_parse_34
    · replace h := t_neg h q8
      refine lv_aload_n hx hb dX1_parse_24 rfl (lv_at hl 0 rfl) ?_
      refine lv_bipush (v := nI 58) hx hb dX1_parse_25 (by decide) ?_
      obtain ⟨r10, m11, y9, h⟩ := t_bd h
      refine c_vi hx hb hml hown hts hK hw hS (fun _ h => h) (As := [.int (nI 58)]) (rest := []) (c_X1_takeSign hcv (M0 := gs M0 7 m7) (m := m7) (hm := gs_at) y9) cf_X1_takeSign k_448 rfl rfl ⟨Nat.le_of_ble_eq_true rfl, Nat.le_of_ble_eq_true rfl⟩ (r_recv hK hw (v_tx (by decide)) E_tx rfl) rfl hl.1 rfl (Nat.le_of_ble_eq_true rfl) ⟨Nat.le_refl _, Nat.le_refl _⟩ dX1_parse_27 (fun H locs hw hS => ?_)
      rw [gs_gs] at hw
      refine lv_if_ne (tgt := 35) hx hb dX1_parse_30 (by decide) (fun q12 => ?_) (fun q12 => ?_)
      · replace h := t_neg h q12
        refine lv_aload_n hx hb dX1_parse_35 rfl (lv_at hl 0 rfl) ?_
        refine lv_aload_n hx hb dX1_parse_36 rfl (lv_at hl 0 rfl) ?_
        obtain ⟨r14, m15, y13, h⟩ := t_bd h
        refine c_vi hx hb hml hown hts hK hw hS (fun _ h => h) (As := []) (rest := [.ref (ad 7 0)]) (c_X1_takeNumber hcv (M0 := gs M0 7 m11) (m := m11) (hm := gs_at) y13) cf_X1_takeNumber k_452 rfl rfl ⟨Nat.le_of_ble_eq_true rfl, Nat.le_of_ble_eq_true rfl⟩ (r_recv hK hw (v_tx (by decide)) E_tx rfl) rfl hl.1 rfl (Nat.le_of_ble_eq_true rfl) ⟨Nat.le_refl _, Nat.le_refl _⟩ dX1_parse_37 (fun H locs hw hS => ?_)
        rw [gs_gs] at hw
        obtain ⟨m17, e16, h⟩ := t_lt h
        refine r_put hx hb hts hown hK hcv hw hS (v_tx (by decide)) gs_atc E_tx inX1 rfl tyX1 tyX1_ok nmX1 5 (by decide) k_33 rfl rfl rfl rfl (Nat.le_of_ble_eq_true rfl) E_tx (gs_up e16) dX1_parse_40 (fun H locs hw hS => ?_)
        refine lv_aload_n hx hb dX1_parse_43 rfl (lv_at hl 0 rfl) ?_
        refine r_get hx hb hts hown hK hw (v_tx (by decide)) gs_atc E_tx inX1 rfl 5 (by decide) k_33 rfl rfl dX1_parse_44 ?_
        refine lv_if_lt (tgt := 59) hx hb dX1_parse_47 (by decide) (fun q18 => ?_) (fun q18 => ?_)
        · replace h := t_pos h q18
          refine lv_iconst (v := nI 0) hx hb dX1_parse_59 (by decide) ?_
          have e1 := (t_ret h).1
          have e2 := (t_ret h).2
          exact e_z hx hb hr hlk (Or.inl rfl) hw hS e1 (by rw [e2]) dX1_parse_60
        · replace h := t_neg h q18
          refine lv_aload_n hx hb dX1_parse_50 rfl (lv_at hl 0 rfl) ?_
          refine lv_bipush (v := nI 45) hx hb dX1_parse_51 (by decide) ?_
          obtain ⟨r20, m21, y19, h⟩ := t_bd h
          refine c_vi hx hb hml hown hts hK hw hS (fun _ h => h) (As := [.int (nI 45)]) (rest := []) (c_X1_takeSign hcv (M0 := gs M0 7 m17) (m := m17) (hm := gs_at) y19) cf_X1_takeSign k_448 rfl rfl ⟨Nat.le_of_ble_eq_true rfl, Nat.le_of_ble_eq_true rfl⟩ (r_recv hK hw (v_tx (by decide)) E_tx rfl) rfl hl.1 rfl (Nat.le_of_ble_eq_true rfl) ⟨Nat.le_refl _, Nat.le_refl _⟩ dX1_parse_53 (fun H locs hw hS => ?_)
          rw [gs_gs] at hw
          refine lv_if_ne (tgt := 61) hx hb dX1_parse_56 (by decide) (fun q22 => ?_) (fun q22 => ?_)
          · replace h := t_neg h q22
            refine lv_aload_n hx hb dX1_parse_61 rfl (lv_at hl 0 rfl) ?_
            refine lv_aload_n hx hb dX1_parse_62 rfl (lv_at hl 0 rfl) ?_
            obtain ⟨r24, m25, y23, h⟩ := t_bd h
            refine c_vi hx hb hml hown hts hK hw hS (fun _ h => h) (As := []) (rest := [.ref (ad 7 0)]) (c_X1_takeNumber hcv (M0 := gs M0 7 m21) (m := m21) (hm := gs_at) y23) cf_X1_takeNumber k_452 rfl rfl ⟨Nat.le_of_ble_eq_true rfl, Nat.le_of_ble_eq_true rfl⟩ (r_recv hK hw (v_tx (by decide)) E_tx rfl) rfl hl.1 rfl (Nat.le_of_ble_eq_true rfl) ⟨Nat.le_refl _, Nat.le_refl _⟩ dX1_parse_63 (fun H locs hw hS => ?_)
            rw [gs_gs] at hw
            obtain ⟨m27, e26, h⟩ := t_lt h
            refine r_put hx hb hts hown hK hcv hw hS (v_tx (by decide)) gs_atc E_tx inX1 rfl tyX1 tyX1_ok nmX1 6 (by decide) k_35 rfl rfl rfl rfl (Nat.le_of_ble_eq_true rfl) E_tx (gs_up e26) dX1_parse_66 (fun H locs hw hS => ?_)
            refine lv_aload_n hx hb dX1_parse_69 rfl (lv_at hl 0 rfl) ?_
            refine r_get hx hb hts hown hK hw (v_tx (by decide)) gs_atc E_tx inX1 rfl 6 (by decide) k_35 rfl rfl dX1_parse_70 ?_
            refine lv_if_lt (tgt := 85) hx hb dX1_parse_73 (by decide) (fun q28 => ?_) (fun q28 => ?_)
            · replace h := t_pos h q28
              refine lv_iconst (v := nI 0) hx hb dX1_parse_85 (by decide) ?_
              have e1 := (t_ret h).1
              have e2 := (t_ret h).2
              exact e_z hx hb hr hlk (Or.inl rfl) hw hS e1 (by rw [e2]) dX1_parse_86
            · replace h := t_neg h q28
              refine lv_aload_n hx hb dX1_parse_76 rfl (lv_at hl 0 rfl) ?_
              refine lv_bipush (v := nI 61) hx hb dX1_parse_77 (by decide) ?_
              obtain ⟨r30, m31, y29, h⟩ := t_bd h
              refine c_vi hx hb hml hown hts hK hw hS (fun _ h => h) (As := [.int (nI 61)]) (rest := []) (c_X1_takeSign hcv (M0 := gs M0 7 m27) (m := m27) (hm := gs_at) y29) cf_X1_takeSign k_448 rfl rfl ⟨Nat.le_of_ble_eq_true rfl, Nat.le_of_ble_eq_true rfl⟩ (r_recv hK hw (v_tx (by decide)) E_tx rfl) rfl hl.1 rfl (Nat.le_of_ble_eq_true rfl) ⟨Nat.le_refl _, Nat.le_refl _⟩ dX1_parse_79 (fun H locs hw hS => ?_)
              rw [gs_gs] at hw
              refine lv_if_ne (tgt := 87) hx hb dX1_parse_82 (by decide) (fun q32 => ?_) (fun q32 => ?_)
              · replace h := t_neg h q32
                refine lv_aload_n hx hb dX1_parse_87 rfl (lv_at hl 0 rfl) ?_
                obtain ⟨r34, m35, y33, h⟩ := t_bd h
                refine c_vi hx hb hml hown hts hK hw hS (fun _ h => h) (As := []) (rest := []) (c_X1_takeValues hcv (M0 := gs M0 7 m31) (m := m31) (hm := gs_at) y33) cf_X1_takeValues k_456 rfl rfl ⟨Nat.le_of_ble_eq_true rfl, Nat.le_of_ble_eq_true rfl⟩ (r_recv hK hw (v_tx (by decide)) E_tx rfl) rfl hl.1 rfl (Nat.le_of_ble_eq_true rfl) ⟨Nat.le_refl _, Nat.le_refl _⟩ dX1_parse_88 (fun H locs hw hS => ?_)
                rw [gs_gs] at hw
                obtain ⟨q36, h⟩ := t_gz h
                have e1 := (t_ret h).1
                have e2 := (t_ret h).2
                exact e_z hx hb hr hlk q36 hw hS e1 (by rw [e2]) dX1_parse_91
              · replace h := t_pos h q32
                refine lv_iconst (v := nI 0) hx hb dX1_parse_85 (by decide) ?_
                have e1 := (t_ret h).1
                have e2 := (t_ret h).2
                exact e_z hx hb hr hlk (Or.inl rfl) hw hS e1 (by rw [e2]) dX1_parse_86
          · replace h := t_pos h q22
            refine lv_iconst (v := nI 0) hx hb dX1_parse_59 (by decide) ?_
            have e1 := (t_ret h).1
            have e2 := (t_ret h).2
            exact e_z hx hb hr hlk (Or.inl rfl) hw hS e1 (by rw [e2]) dX1_parse_60
      · replace h := t_pos h q12
        refine lv_iconst (v := nI 0) hx hb dX1_parse_33 (by decide) ?_
        have e1 := (t_ret h).1
        have e2 := (t_ret h).2
        exact e_z hx hb hr hlk (Or.inl rfl) hw hS e1 (by rw [e2]) dX1_parse_34
  exact main _ _ hw hS ls hl

theorem cf_X5_isFromTo : cfS RX5 yX5_isFromTo cX5_isFromTo 3 (some .boolean) 3 := ⟨⟨k_229, k_1, k_230⟩, by decide +kernel⟩
def f_X5_isFromTo (p0 : Int32) (p1 : Int32) (p2 : Int32) : Option (Int32) :=
  (if p0 < p1 then some (nI 0) else (if p2 < p0 then some (nI 0) else some (nI 1)))
set_option maxHeartbeats 4000000 in
set_option maxRecDepth 100000 in
theorem c_X5_isFromTo {l : Launch} {D : va_G} {cy : Nat → ClassId} {ad : Nat → Nat → Nat} (hcv : CV ad) {M0 : MM} {p0 p1 p2 : Int32} {r : Int32} (h : f_X5_isFromTo p0 p1 p2 = some r) : Met l yX5_isFromTo (.code yX5_isFromTo cX5_isFromTo 3 (some .boolean) :: TB) ({ frames := 0, cells := 0, slots := 0, locals := 0 } : Room) (PW D cy ad M0 [.int p0, .int p1, .int p2]) (QI D cy ad r M0) 0 0 (AD ad) := by
  refine m_in (by decide +kernel) (Nat.le_of_ble_eq_true rfl) ?_
  intro p e s md args below meth c hC hw hS ls hl
  obtain ⟨hx, hb, hr, hml, hown, hts, hK, hlk⟩ := hC
  have hl : lv_has ls 3 [(0, .int p0), (1, .int p1), (2, .int p2)] := hl
  unfold f_X5_isFromTo at h
  have main : JL p l e ({ frames := 0, cells := 0, slots := 0, locals := 0 } : Room) s md args below meth c D cy ad (MQ below (QI D cy ad r M0) args s 0 0 (AD ad)) (M0) 3 [(0, .int p0), (1, .int p1), (2, .int p2)] 0 [] := by
    intro H locs hw hS ls hl
    refine lv_iload_n hx hb dX5_isFromTo_0 rfl (lv_at hl 0 rfl) ?_
    refine lv_iload_n hx hb dX5_isFromTo_1 rfl (lv_at hl 1 rfl) ?_
    refine lv_icmp_lt (tgt := 14) hx hb dX5_isFromTo_2 (by decide) (fun q1 => ?_) (fun q1 => ?_)
    · replace h := t_pos h q1
      refine lv_iconst (v := nI 0) hx hb dX5_isFromTo_14 (by decide) ?_
      have e1 := Option.some.inj h
      exact e_z hx hb hr hlk (Or.inl rfl) hw hS e1 rfl dX5_isFromTo_15
    · replace h := t_neg h q1
      refine lv_iload_n hx hb dX5_isFromTo_5 rfl (lv_at hl 0 rfl) ?_
      refine lv_iload_n hx hb dX5_isFromTo_6 rfl (lv_at hl 2 rfl) ?_
      refine lv_icmp_gt (tgt := 14) hx hb dX5_isFromTo_7 (by decide) (fun q2 => ?_) (fun q2 => ?_)
      · replace h := t_pos h q2
        refine lv_iconst (v := nI 0) hx hb dX5_isFromTo_14 (by decide) ?_
        have e1 := Option.some.inj h
        exact e_z hx hb hr hlk (Or.inl rfl) hw hS e1 rfl dX5_isFromTo_15
      · replace h := t_neg h q2
        refine lv_iconst (v := nI 1) hx hb dX5_isFromTo_10 (by decide) ?_
        refine lv_goto (tgt := 15) hx hb dX5_isFromTo_11 (by decide) ?_
        have e1 := Option.some.inj h
        exact e_z hx hb hr hlk (Or.inr rfl) hw hS e1 rfl dX5_isFromTo_15
  exact main _ _ hw hS ls hl

theorem cf_X1_isInRange : cfV RX1 yX1_isInRange cX1_isInRange 2 (some .boolean) 0 := ⟨⟨k_461, k_462, k_2, k_463⟩, by decide +kernel⟩
def f_X1_isInRange_L15 (m : SM) : Nat → Int32 → Option (Int32)
  | 0, _ => none
  | n + 1, x1 => (if (m 0 7) ≤ x1 then some (nI 1) else gd x1 16 (b1 (f_X5_isFromTo (m 2 x1.toNatClampNeg) (m 0 5) (m 0 6)) fun r4 => (if r4 = (nI 0) then some (nI 0) else f_X1_isInRange_L15 m n (x1 + (nI 1)))))
def f_X1_isInRange (m : SM) : Option (Int32) :=
  (if (m 0 5) ≤ (m 0 6) then f_X1_isInRange_L15 m FU (nI 0) else some (nI 0))
set_option maxHeartbeats 4000000 in
set_option maxRecDepth 100000 in
theorem c_X1_isInRange {l : Launch} {D : va_G} {cy : Nat → ClassId} {ad : Nat → Nat → Nat} (hcv : CV ad) {M0 : MM} {m : SM} (hm : M0 7 = m) {r : Int32} (h : f_X1_isInRange m = some r) : Met l yX1_isInRange (.code yX1_isInRange cX1_isInRange 2 (some .boolean) :: TB) ({ frames := 1, cells := 0, slots := 0, locals := 22 } : Room) (PW D cy ad M0 [.ref (ad 7 0)]) (QI D cy ad r M0) 0 0 (AD ad) := by
  refine m_in (by decide +kernel) (Nat.le_of_ble_eq_true rfl) ?_
  intro p e s md args below meth c hC hw hS ls hl
  obtain ⟨hx, hb, hr, hml, hown, hts, hK, hlk⟩ := hC
  have hl : lv_has ls 2 [(0, .ref (ad 7 0))] := hl
  rw [← gs_same hm] at hw
  have L15 : ∀ (n : Nat), ∀ (x1 : Int32), f_X1_isInRange_L15 m n x1 = some r → JL p l e ({ frames := 1, cells := 0, slots := 0, locals := 22 } : Room) s md args below meth c D cy ad (MQ below (QI D cy ad r M0) args s 0 0 (AD ad)) (gs M0 7 m) 2 [(0, .ref (ad 7 0)), (1, .int x1)] 15 [] := by
    intro n
    induction n with
    | zero =>
      intro x1 h
      cases h
    | succ n ih =>
      intro x1 h H locs hw hS ls hl
      rw [f_X1_isInRange_L15.eq_2] at h
      refine lv_iload_n hx hb dX1_isInRange_15 rfl (lv_at hl 1 rfl) ?_
      refine lv_aload_n hx hb dX1_isInRange_16 rfl (lv_at hl 0 rfl) ?_
      refine r_get hx hb hts hown hK hw (v_tx (by decide)) gs_atc E_tx inX1 rfl 7 (by decide) k_37 rfl rfl dX1_isInRange_17 ?_
      refine lv_icmp_ge (tgt := 51) hx hb dX1_isInRange_20 (by decide) (fun q1 => ?_) (fun q1 => ?_)
      · replace h := t_pos h q1
        refine lv_iconst (v := nI 1) hx hb dX1_isInRange_51 (by decide) ?_
        have e1 := Option.some.inj h
        exact e_z hx hb hr hlk (Or.inr rfl) hw hS e1 (gs_same hm) dX1_isInRange_52
      · replace h := t_neg h q1
        refine lv_aload_n hx hb dX1_isInRange_23 rfl (lv_at hl 0 rfl) ?_
        refine r_get hx hb hts hown hK hw (v_tx (by decide)) gs_atc E_tx inX1 rfl 1 (by decide) k_24 rfl rfl dX1_isInRange_24 ?_
        refine lv_iload_n hx hb dX1_isInRange_27 rfl (lv_at hl 1 rfl) ?_
        obtain ⟨q2, h⟩ := t_gd h
        refine r_iald hx hb hK hw (v_tx (by decide)) gs_atc E_tv q2 dX1_isInRange_28 ?_
        refine lv_aload_n hx hb dX1_isInRange_29 rfl (lv_at hl 0 rfl) ?_
        refine r_get hx hb hts hown hK hw (v_tx (by decide)) gs_atc E_tx inX1 rfl 5 (by decide) k_33 rfl rfl dX1_isInRange_30 ?_
        refine lv_aload_n hx hb dX1_isInRange_33 rfl (lv_at hl 0 rfl) ?_
        refine r_get hx hb hts hown hK hw (v_tx (by decide)) gs_atc E_tx inX1 rfl 6 (by decide) k_35 rfl rfl dX1_isInRange_34 ?_
        obtain ⟨r4, y3, h⟩ := t_b1 h
        refine c_sn hx hb hml hown hts hK hw hS (fun _ h => h) (As := [.int (m 2 x1.toNatClampNeg), .int (m 0 5), .int (m 0 6)]) (rest := []) (c_X5_isFromTo hcv (M0 := gs M0 7 m) y3) cf_X5_isFromTo k_464n rfl rfl ⟨Nat.le_of_ble_eq_true rfl, Nat.le_of_ble_eq_true rfl⟩ rfl hl.1 rfl (Nat.le_of_ble_eq_true rfl) ⟨Nat.le_refl _, Nat.le_refl _⟩ dX1_isInRange_37 (fun H locs hw hS => ?_)
        refine lv_if_ne (tgt := 45) hx hb dX1_isInRange_40 (by decide) (fun q5 => ?_) (fun q5 => ?_)
        · replace h := t_neg h q5
          refine lv_iinc (v := (x1 + (nI 1))) (lv' := [(1, .int (x1 + (nI 1))), (0, .ref (ad 7 0))]) hx hb dX1_isInRange_45 hl (k := 1) rfl rfl (by decide) rfl (fun ls hl => ?_)
          refine lv_goto (tgt := 15) hx hb dX1_isInRange_48 (by decide) ?_
          exact ih (x1 + (nI 1)) h H locs hw hS ls (lv_sub hl [1, 0] rfl)
        · replace h := t_pos h q5
          refine lv_iconst (v := nI 0) hx hb dX1_isInRange_43 (by decide) ?_
          have e1 := Option.some.inj h
          exact e_z hx hb hr hlk (Or.inl rfl) hw hS e1 (gs_same hm) dX1_isInRange_44
  unfold f_X1_isInRange at h
  have main : JL p l e ({ frames := 1, cells := 0, slots := 0, locals := 22 } : Room) s md args below meth c D cy ad (MQ below (QI D cy ad r M0) args s 0 0 (AD ad)) (gs M0 7 m) 2 [(0, .ref (ad 7 0))] 0 [] := by
    intro H locs hw hS ls hl
    refine lv_aload_n hx hb dX1_isInRange_0 rfl (lv_at hl 0 rfl) ?_
    refine r_get hx hb hts hown hK hw (v_tx (by decide)) gs_atc E_tx inX1 rfl 5 (by decide) k_33 rfl rfl dX1_isInRange_1 ?_
    refine lv_aload_n hx hb dX1_isInRange_4 rfl (lv_at hl 0 rfl) ?_
    refine r_get hx hb hts hown hK hw (v_tx (by decide)) gs_atc E_tx inX1 rfl 6 (by decide) k_35 rfl rfl dX1_isInRange_5 ?_
    refine lv_icmp_le (tgt := 13) hx hb dX1_isInRange_8 (by decide) (fun q1 => ?_) (fun q1 => ?_)
    · replace h := t_pos h q1
      refine lv_iconst (v := nI 0) hx hb dX1_isInRange_13 (by decide) ?_
      refine lv_istore_n (lv' := [(1, .int (nI 0)), (0, .ref (ad 7 0))]) hx hb dX1_isInRange_14 rfl hl (by decide) rfl (fun ls hl => ?_)
      exact L15 FU (nI 0) h H locs hw hS ls (lv_sub hl [1, 0] rfl)
    · replace h := t_neg h q1
      refine lv_iconst (v := nI 0) hx hb dX1_isInRange_11 (by decide) ?_
      have e1 := Option.some.inj h
      exact e_z hx hb hr hlk (Or.inl rfl) hw hS e1 (gs_same hm) dX1_isInRange_12
  exact main _ _ hw hS ls hl

def f_X3_copyFromS (m : SM) (i : Nat) (i2 : Nat) : Option (Int32 × SM) :=
  lt1 (up m (19 + i) 0 (m (19 + i2) 0)) fun m2 => lt1 (up m2 (19 + i) 1 (m2 (19 + i2) 1)) fun m4 => lt1 (up m4 (19 + i) 2 (m4 (19 + i2) 2)) fun m6 => lt1 (up m6 (19 + i) 3 (m6 (19 + i2) 3)) fun m8 => gz (m8 (19 + i2) 4) (lt1 (up m8 (19 + i) 4 (m8 (19 + i2) 4)) fun m11 => lt1 (up m11 (19 + i) 5 (m11 (19 + i2) 5)) fun m13 => lt1 (up m13 (19 + i) 6 (m13 (19 + i2) 6)) fun m15 => lt1 (up m15 (19 + i) 7 (m15 (19 + i2) 7)) fun m17 => some (0, m17))
set_option maxHeartbeats 4000000 in
set_option maxRecDepth 100000 in
theorem c_X3_copyFromS {l : Launch} {D : va_G} {cy : Nat → ClassId} {ad : Nat → Nat → Nat} (hcv : CV ad) {g : Nat} (hg : g < 7) {i : Nat} (hi : i < 6) {i2 : Nat} (hi2 : i2 < 6) {M0 : MM} {m : SM} (hm : M0 g = m) {r : Int32} {x : SM} (h : f_X3_copyFromS m i i2 = some (r, x)) : Met l yX3_copyFrom (.code yX3_copyFrom cX3_copyFrom 2 none :: TB) ({ frames := 0, cells := 0, slots := 0, locals := 0 } : Room) (PW D cy ad M0 [.ref (ad g (19 + i)), .ref (ad g (19 + i2))]) (QV D cy ad (gs M0 g x)) 0 0 (AD ad) := by
  refine m_in (by decide +kernel) (Nat.le_of_ble_eq_true rfl) ?_
  intro p e s md args below meth c hC hw hS ls hl
  obtain ⟨hx, hb, hr, hml, hown, hts, hK, hlk⟩ := hC
  have hl : lv_has ls 2 [(0, .ref (ad g (19 + i))), (1, .ref (ad g (19 + i2)))] := hl
  rw [← gs_same hm] at hw
  unfold f_X3_copyFromS at h
  have main : JL p l e ({ frames := 0, cells := 0, slots := 0, locals := 0 } : Room) s md args below meth c D cy ad (MQ below (QV D cy ad (gs M0 g x)) args s 0 0 (AD ad)) (gs M0 g m) 2 [(0, .ref (ad g (19 + i))), (1, .ref (ad g (19 + i2)))] 0 [] := by
    intro H locs hw hS ls hl
    refine lv_aload_n hx hb dX3_copyFrom_0 rfl (lv_at hl 0 rfl) ?_
    refine lv_aload_n hx hb dX3_copyFrom_1 rfl (lv_at hl 1 rfl) ?_
    refine r_get hx hb hts hown hK hw (v_qu hg hi2) gs_atc (E_qu hg) inX3 rfl 0 (by decide) k_120 rfl rfl dX3_copyFrom_2 ?_
    obtain ⟨m2, e1, h⟩ := t_lt h
    refine r_put hx hb hts hown hK hcv hw hS (v_qu hg hi) gs_atc (E_qu hg) inX3 rfl tyX3 tyX3_ok nmX3 0 (by decide) k_120 rfl rfl rfl rfl (Nat.le_of_ble_eq_true rfl) (E_qu hg) (gs_up e1) dX3_copyFrom_5 (fun H locs hw hS => ?_)
    refine lv_aload_n hx hb dX3_copyFrom_8 rfl (lv_at hl 0 rfl) ?_
    refine lv_aload_n hx hb dX3_copyFrom_9 rfl (lv_at hl 1 rfl) ?_
    refine r_get hx hb hts hown hK hw (v_qu hg hi2) gs_atc (E_qu hg) inX3 rfl 1 (by decide) k_123 rfl rfl dX3_copyFrom_10 ?_
    obtain ⟨m4, e3, h⟩ := t_lt h
    refine r_put hx hb hts hown hK hcv hw hS (v_qu hg hi) gs_atc (E_qu hg) inX3 rfl tyX3 tyX3_ok nmX3 1 (by decide) k_123 rfl rfl rfl rfl (Nat.le_of_ble_eq_true rfl) (E_qu hg) (gs_up e3) dX3_copyFrom_13 (fun H locs hw hS => ?_)
    refine lv_aload_n hx hb dX3_copyFrom_16 rfl (lv_at hl 0 rfl) ?_
    refine lv_aload_n hx hb dX3_copyFrom_17 rfl (lv_at hl 1 rfl) ?_
    refine r_get hx hb hts hown hK hw (v_qu hg hi2) gs_atc (E_qu hg) inX3 rfl 2 (by decide) k_126 rfl rfl dX3_copyFrom_18 ?_
    obtain ⟨m6, e5, h⟩ := t_lt h
    refine r_put hx hb hts hown hK hcv hw hS (v_qu hg hi) gs_atc (E_qu hg) inX3 rfl tyX3 tyX3_ok nmX3 2 (by decide) k_126 rfl rfl rfl rfl (Nat.le_of_ble_eq_true rfl) (E_qu hg) (gs_up e5) dX3_copyFrom_21 (fun H locs hw hS => ?_)
    refine lv_aload_n hx hb dX3_copyFrom_24 rfl (lv_at hl 0 rfl) ?_
    refine lv_aload_n hx hb dX3_copyFrom_25 rfl (lv_at hl 1 rfl) ?_
    refine r_get hx hb hts hown hK hw (v_qu hg hi2) gs_atc (E_qu hg) inX3 rfl 3 (by decide) k_129 rfl rfl dX3_copyFrom_26 ?_
    obtain ⟨m8, e7, h⟩ := t_lt h
    refine r_put hx hb hts hown hK hcv hw hS (v_qu hg hi) gs_atc (E_qu hg) inX3 rfl tyX3 tyX3_ok nmX3 3 (by decide) k_129 rfl rfl rfl rfl (Nat.le_of_ble_eq_true rfl) (E_qu hg) (gs_up e7) dX3_copyFrom_29 (fun H locs hw hS => ?_)
    refine lv_aload_n hx hb dX3_copyFrom_32 rfl (lv_at hl 0 rfl) ?_
    refine lv_aload_n hx hb dX3_copyFrom_33 rfl (lv_at hl 1 rfl) ?_
    refine r_get hx hb hts hown hK hw (v_qu hg hi2) gs_atc (E_qu hg) inX3 rfl 4 (by decide) k_132 rfl rfl dX3_copyFrom_34 ?_
    obtain ⟨q9, h⟩ := t_gz h
    obtain ⟨m11, e10, h⟩ := t_lt h
    refine r_put hx hb hts hown hK hcv hw hS (v_qu hg hi) gs_atc (E_qu hg) inX3 rfl tyX3 tyX3_ok nmX3 4 (by decide) k_132 rfl rfl (nar_z q9) (fit_z q9) (Nat.le_of_ble_eq_true rfl) (E_qu hg) (gs_up e10) dX3_copyFrom_37 (fun H locs hw hS => ?_)
    refine lv_aload_n hx hb dX3_copyFrom_40 rfl (lv_at hl 0 rfl) ?_
    refine lv_aload_n hx hb dX3_copyFrom_41 rfl (lv_at hl 1 rfl) ?_
    refine r_get hx hb hts hown hK hw (v_qu hg hi2) gs_atc (E_qu hg) inX3 rfl 5 (by decide) k_135 rfl rfl dX3_copyFrom_42 ?_
    obtain ⟨m13, e12, h⟩ := t_lt h
    refine r_put hx hb hts hown hK hcv hw hS (v_qu hg hi) gs_atc (E_qu hg) inX3 rfl tyX3 tyX3_ok nmX3 5 (by decide) k_135 rfl rfl rfl rfl (Nat.le_of_ble_eq_true rfl) (E_qu hg) (gs_up e12) dX3_copyFrom_45 (fun H locs hw hS => ?_)
    refine lv_aload_n hx hb dX3_copyFrom_48 rfl (lv_at hl 0 rfl) ?_
    refine lv_aload_n hx hb dX3_copyFrom_49 rfl (lv_at hl 1 rfl) ?_
    refine r_get hx hb hts hown hK hw (v_qu hg hi2) gs_atc (E_qu hg) inX3 rfl 6 (by decide) k_138 rfl rfl dX3_copyFrom_50 ?_
    obtain ⟨m15, e14, h⟩ := t_lt h
    refine r_put hx hb hts hown hK hcv hw hS (v_qu hg hi) gs_atc (E_qu hg) inX3 rfl tyX3 tyX3_ok nmX3 6 (by decide) k_138 rfl rfl rfl rfl (Nat.le_of_ble_eq_true rfl) (E_qu hg) (gs_up e14) dX3_copyFrom_53 (fun H locs hw hS => ?_)
    refine lv_aload_n hx hb dX3_copyFrom_56 rfl (lv_at hl 0 rfl) ?_
    refine lv_aload_n hx hb dX3_copyFrom_57 rfl (lv_at hl 1 rfl) ?_
    refine r_get hx hb hts hown hK hw (v_qu hg hi2) gs_atc (E_qu hg) inX3 rfl 7 (by decide) k_141 rfl rfl dX3_copyFrom_58 ?_
    obtain ⟨m17, e16, h⟩ := t_lt h
    refine r_put hx hb hts hown hK hcv hw hS (v_qu hg hi) gs_atc (E_qu hg) inX3 rfl tyX3 tyX3_ok nmX3 7 (by decide) k_141 rfl rfl rfl rfl (Nat.le_of_ble_eq_true rfl) (E_qu hg) (gs_up e16) dX3_copyFrom_61 (fun H locs hw hS => ?_)
    have e1 := (t_ret h).1
    have e2 := (t_ret h).2
    exact e_v hx hb hr hlk hw hS (by rw [e2]) dX3_copyFrom_64
  exact main _ _ hw hS ls hl

theorem cf_X3_copyFrom : cfV RX3 yX3_copyFrom cX3_copyFrom 2 none 1 := ⟨⟨k_247, k_248, k_5, k_249⟩, by decide +kernel⟩
def f_X3_copyFrom (m : SM) (mz : SM) (i : Nat) (i2 : Nat) : Option (Int32 × SM) :=
  lt1 (up m (19 + i) 0 (mz (19 + i2) 0)) fun m2 => lt1 (up m2 (19 + i) 1 (mz (19 + i2) 1)) fun m4 => lt1 (up m4 (19 + i) 2 (mz (19 + i2) 2)) fun m6 => lt1 (up m6 (19 + i) 3 (mz (19 + i2) 3)) fun m8 => gz (mz (19 + i2) 4) (lt1 (up m8 (19 + i) 4 (mz (19 + i2) 4)) fun m11 => lt1 (up m11 (19 + i) 5 (mz (19 + i2) 5)) fun m13 => lt1 (up m13 (19 + i) 6 (mz (19 + i2) 6)) fun m15 => lt1 (up m15 (19 + i) 7 (mz (19 + i2) 7)) fun m17 => some (0, m17))
set_option maxHeartbeats 4000000 in
set_option maxRecDepth 100000 in
theorem c_X3_copyFrom {l : Launch} {D : va_G} {cy : Nat → ClassId} {ad : Nat → Nat → Nat} (hcv : CV ad) {g : Nat} (hg : g < 7) {g2 : Nat} (hg2 : g2 < 7) {i : Nat} (hi : i < 6) {i2 : Nat} (hi2 : i2 < 6) {M0 : MM} {m : SM} (hm : M0 g = m) (hne : g2 ≠ g) {mz : SM} (hm2 : M0 g2 = mz) {r : Int32} {x : SM} (h : f_X3_copyFrom m mz i i2 = some (r, x)) : Met l yX3_copyFrom (.code yX3_copyFrom cX3_copyFrom 2 none :: TB) ({ frames := 0, cells := 0, slots := 0, locals := 0 } : Room) (PW D cy ad M0 [.ref (ad g (19 + i)), .ref (ad g2 (19 + i2))]) (QV D cy ad (gs M0 g x)) 0 0 (AD ad) := by
  refine m_in (by decide +kernel) (Nat.le_of_ble_eq_true rfl) ?_
  intro p e s md args below meth c hC hw hS ls hl
  obtain ⟨hx, hb, hr, hml, hown, hts, hK, hlk⟩ := hC
  have hl : lv_has ls 2 [(0, .ref (ad g (19 + i))), (1, .ref (ad g2 (19 + i2)))] := hl
  rw [← gs_same hm] at hw
  unfold f_X3_copyFrom at h
  have main : JL p l e ({ frames := 0, cells := 0, slots := 0, locals := 0 } : Room) s md args below meth c D cy ad (MQ below (QV D cy ad (gs M0 g x)) args s 0 0 (AD ad)) (gs M0 g m) 2 [(0, .ref (ad g (19 + i))), (1, .ref (ad g2 (19 + i2)))] 0 [] := by
    intro H locs hw hS ls hl
    refine lv_aload_n hx hb dX3_copyFrom_0 rfl (lv_at hl 0 rfl) ?_
    refine lv_aload_n hx hb dX3_copyFrom_1 rfl (lv_at hl 1 rfl) ?_
    refine r_get hx hb hts hown hK hw (v_qu hg2 hi2) (gs_nec hne hm2) (E_qu hg2) inX3 rfl 0 (by decide) k_120 rfl rfl dX3_copyFrom_2 ?_
    obtain ⟨m2, e1, h⟩ := t_lt h
    refine r_put hx hb hts hown hK hcv hw hS (v_qu hg hi) gs_atc (E_qu hg) inX3 rfl tyX3 tyX3_ok nmX3 0 (by decide) k_120 rfl rfl rfl rfl (Nat.le_of_ble_eq_true rfl) (E_qu hg) (gs_up e1) dX3_copyFrom_5 (fun H locs hw hS => ?_)
    refine lv_aload_n hx hb dX3_copyFrom_8 rfl (lv_at hl 0 rfl) ?_
    refine lv_aload_n hx hb dX3_copyFrom_9 rfl (lv_at hl 1 rfl) ?_
    refine r_get hx hb hts hown hK hw (v_qu hg2 hi2) (gs_nec hne hm2) (E_qu hg2) inX3 rfl 1 (by decide) k_123 rfl rfl dX3_copyFrom_10 ?_
    obtain ⟨m4, e3, h⟩ := t_lt h
    refine r_put hx hb hts hown hK hcv hw hS (v_qu hg hi) gs_atc (E_qu hg) inX3 rfl tyX3 tyX3_ok nmX3 1 (by decide) k_123 rfl rfl rfl rfl (Nat.le_of_ble_eq_true rfl) (E_qu hg) (gs_up e3) dX3_copyFrom_13 (fun H locs hw hS => ?_)
    refine lv_aload_n hx hb dX3_copyFrom_16 rfl (lv_at hl 0 rfl) ?_
    refine lv_aload_n hx hb dX3_copyFrom_17 rfl (lv_at hl 1 rfl) ?_
    refine r_get hx hb hts hown hK hw (v_qu hg2 hi2) (gs_nec hne hm2) (E_qu hg2) inX3 rfl 2 (by decide) k_126 rfl rfl dX3_copyFrom_18 ?_
    obtain ⟨m6, e5, h⟩ := t_lt h
    refine r_put hx hb hts hown hK hcv hw hS (v_qu hg hi) gs_atc (E_qu hg) inX3 rfl tyX3 tyX3_ok nmX3 2 (by decide) k_126 rfl rfl rfl rfl (Nat.le_of_ble_eq_true rfl) (E_qu hg) (gs_up e5) dX3_copyFrom_21 (fun H locs hw hS => ?_)
    refine lv_aload_n hx hb dX3_copyFrom_24 rfl (lv_at hl 0 rfl) ?_
    refine lv_aload_n hx hb dX3_copyFrom_25 rfl (lv_at hl 1 rfl) ?_
    refine r_get hx hb hts hown hK hw (v_qu hg2 hi2) (gs_nec hne hm2) (E_qu hg2) inX3 rfl 3 (by decide) k_129 rfl rfl dX3_copyFrom_26 ?_
    obtain ⟨m8, e7, h⟩ := t_lt h
    refine r_put hx hb hts hown hK hcv hw hS (v_qu hg hi) gs_atc (E_qu hg) inX3 rfl tyX3 tyX3_ok nmX3 3 (by decide) k_129 rfl rfl rfl rfl (Nat.le_of_ble_eq_true rfl) (E_qu hg) (gs_up e7) dX3_copyFrom_29 (fun H locs hw hS => ?_)
    refine lv_aload_n hx hb dX3_copyFrom_32 rfl (lv_at hl 0 rfl) ?_
    refine lv_aload_n hx hb dX3_copyFrom_33 rfl (lv_at hl 1 rfl) ?_
    refine r_get hx hb hts hown hK hw (v_qu hg2 hi2) (gs_nec hne hm2) (E_qu hg2) inX3 rfl 4 (by decide) k_132 rfl rfl dX3_copyFrom_34 ?_
    obtain ⟨q9, h⟩ := t_gz h
    obtain ⟨m11, e10, h⟩ := t_lt h
    refine r_put hx hb hts hown hK hcv hw hS (v_qu hg hi) gs_atc (E_qu hg) inX3 rfl tyX3 tyX3_ok nmX3 4 (by decide) k_132 rfl rfl (nar_z q9) (fit_z q9) (Nat.le_of_ble_eq_true rfl) (E_qu hg) (gs_up e10) dX3_copyFrom_37 (fun H locs hw hS => ?_)
    refine lv_aload_n hx hb dX3_copyFrom_40 rfl (lv_at hl 0 rfl) ?_
    refine lv_aload_n hx hb dX3_copyFrom_41 rfl (lv_at hl 1 rfl) ?_
    refine r_get hx hb hts hown hK hw (v_qu hg2 hi2) (gs_nec hne hm2) (E_qu hg2) inX3 rfl 5 (by decide) k_135 rfl rfl dX3_copyFrom_42 ?_
    obtain ⟨m13, e12, h⟩ := t_lt h
    refine r_put hx hb hts hown hK hcv hw hS (v_qu hg hi) gs_atc (E_qu hg) inX3 rfl tyX3 tyX3_ok nmX3 5 (by decide) k_135 rfl rfl rfl rfl (Nat.le_of_ble_eq_true rfl) (E_qu hg) (gs_up e12) dX3_copyFrom_45 (fun H locs hw hS => ?_)
    refine lv_aload_n hx hb dX3_copyFrom_48 rfl (lv_at hl 0 rfl) ?_
    refine lv_aload_n hx hb dX3_copyFrom_49 rfl (lv_at hl 1 rfl) ?_
    refine r_get hx hb hts hown hK hw (v_qu hg2 hi2) (gs_nec hne hm2) (E_qu hg2) inX3 rfl 6 (by decide) k_138 rfl rfl dX3_copyFrom_50 ?_
    obtain ⟨m15, e14, h⟩ := t_lt h
    refine r_put hx hb hts hown hK hcv hw hS (v_qu hg hi) gs_atc (E_qu hg) inX3 rfl tyX3 tyX3_ok nmX3 6 (by decide) k_138 rfl rfl rfl rfl (Nat.le_of_ble_eq_true rfl) (E_qu hg) (gs_up e14) dX3_copyFrom_53 (fun H locs hw hS => ?_)
    refine lv_aload_n hx hb dX3_copyFrom_56 rfl (lv_at hl 0 rfl) ?_
    refine lv_aload_n hx hb dX3_copyFrom_57 rfl (lv_at hl 1 rfl) ?_
    refine r_get hx hb hts hown hK hw (v_qu hg2 hi2) (gs_nec hne hm2) (E_qu hg2) inX3 rfl 7 (by decide) k_141 rfl rfl dX3_copyFrom_58 ?_
    obtain ⟨m17, e16, h⟩ := t_lt h
    refine r_put hx hb hts hown hK hcv hw hS (v_qu hg hi) gs_atc (E_qu hg) inX3 rfl tyX3 tyX3_ok nmX3 7 (by decide) k_141 rfl rfl rfl rfl (Nat.le_of_ble_eq_true rfl) (E_qu hg) (gs_up e16) dX3_copyFrom_61 (fun H locs hw hS => ?_)
    have e1 := (t_ret h).1
    have e2 := (t_ret h).2
    exact e_v hx hb hr hlk hw hS (by rw [e2]) dX3_copyFrom_64
  exact main _ _ hw hS ls hl

theorem cf_X4_copyFrom : cfV RX4 yX4_copyFrom cX4_copyFrom 3 none 1 := ⟨⟨k_236, k_237, k_3, k_238⟩, by decide +kernel⟩
def f_X4_copyFrom_L62 (mz : SM) (m : SM) : Option (Int32 × SM) :=
  lt1 (up m 0 2 (mz 0 2)) fun m2 => lt1 (up m2 0 3 (mz 0 3)) fun m4 => lt1 (up m4 0 4 (mz 0 4)) fun m6 => lt1 (up m6 0 5 (mz 0 5)) fun m8 => some (0, m8)
def f_X4_copyFrom_L33 (mz : SM) : Nat → SM → Int32 → Option (Int32 × SM)
  | 0, _, _ => none
  | n + 1, m, x2 => (if (mz 0 3) ≤ x2 then f_X4_copyFrom_L62 mz m else gd x2 6 (gd x2 6 (bd (f_X3_copyFrom m mz x2.toNatClampNeg x2.toNatClampNeg) fun r5 m6 => f_X4_copyFrom_L33 mz n m6 (x2 + (nI 1)))))
def f_X4_copyFrom_L31 (mz : SM) (m : SM) : Option (Int32 × SM) :=
  f_X4_copyFrom_L33 mz FU m (nI 0)
def f_X4_copyFrom_L2 (mz : SM) : Nat → SM → Int32 → Option (Int32 × SM)
  | 0, _, _ => none
  | n + 1, m, x2 => (if (mz 0 2) ≤ x2 then f_X4_copyFrom_L31 mz m else gd x2 8 (gd x2 8 (bd (f_X0_copyFrom m mz x2.toNatClampNeg x2.toNatClampNeg) fun r5 m6 => f_X4_copyFrom_L2 mz n m6 (x2 + (nI 1)))))
def f_X4_copyFrom (m : SM) (mz : SM) : Option (Int32 × SM) :=
  f_X4_copyFrom_L2 mz FU m (nI 0)
set_option maxHeartbeats 4000000 in
set_option maxRecDepth 100000 in
theorem c_X4_copyFrom {l : Launch} {D : va_G} {cy : Nat → ClassId} {ad : Nat → Nat → Nat} (hcv : CV ad) {g : Nat} (hg : g < 7) {g2 : Nat} (hg2 : g2 < 7) {M0 : MM} {m : SM} (hm : M0 g = m) (hne : g2 ≠ g) {mz : SM} (hm2 : M0 g2 = mz) {r : Int32} {x : SM} (h : f_X4_copyFrom m mz = some (r, x)) : Met l yX4_copyFrom (.code yX4_copyFrom cX4_copyFrom 3 none :: TB) ({ frames := 2, cells := 0, slots := 0, locals := 81 } : Room) (PW D cy ad M0 [.ref (ad g 0), .ref (ad g2 0)]) (QV D cy ad (gs M0 g x)) 0 0 (AD ad) := by
  refine m_in (by decide +kernel) (Nat.le_of_ble_eq_true rfl) ?_
  intro p e s md args below meth c hC hw hS ls hl
  obtain ⟨hx, hb, hr, hml, hown, hts, hK, hlk⟩ := hC
  have hl : lv_has ls 3 [(0, .ref (ad g 0)), (1, .ref (ad g2 0))] := hl
  rw [← gs_same hm] at hw
  have L62 : ∀ (m : SM), f_X4_copyFrom_L62 mz m = some (r, x) → JL p l e ({ frames := 2, cells := 0, slots := 0, locals := 81 } : Room) s md args below meth c D cy ad (MQ below (QV D cy ad (gs M0 g x)) args s 0 0 (AD ad)) (gs M0 g m) 3 [(0, .ref (ad g 0)), (1, .ref (ad g2 0))] 62 [] := by
    intro m h H locs hw hS ls hl
    unfold f_X4_copyFrom_L62 at h
    refine lv_aload_n hx hb dX4_copyFrom_62 rfl (lv_at hl 0 rfl) ?_
    refine lv_aload_n hx hb dX4_copyFrom_63 rfl (lv_at hl 1 rfl) ?_
    refine r_get hx hb hts hown hK hw (v_st hg2 (by decide)) (gs_nec hne hm2) (E_st hg2) inX4 rfl 2 (by decide) k_164 rfl rfl dX4_copyFrom_64 ?_
    obtain ⟨m2, e1, h⟩ := t_lt h
    refine r_put hx hb hts hown hK hcv hw hS (v_st hg (by decide)) gs_atc (E_st hg) inX4 rfl tyX4 tyX4_ok nmX4 2 (by decide) k_164 rfl rfl rfl rfl (Nat.le_of_ble_eq_true rfl) (E_st hg) (gs_up e1) dX4_copyFrom_67 (fun H locs hw hS => ?_)
    refine lv_aload_n hx hb dX4_copyFrom_70 rfl (lv_at hl 0 rfl) ?_
    refine lv_aload_n hx hb dX4_copyFrom_71 rfl (lv_at hl 1 rfl) ?_
    refine r_get hx hb hts hown hK hw (v_st hg2 (by decide)) (gs_nec hne hm2) (E_st hg2) inX4 rfl 3 (by decide) k_166 rfl rfl dX4_copyFrom_72 ?_
    obtain ⟨m4, e3, h⟩ := t_lt h
    refine r_put hx hb hts hown hK hcv hw hS (v_st hg (by decide)) gs_atc (E_st hg) inX4 rfl tyX4 tyX4_ok nmX4 3 (by decide) k_166 rfl rfl rfl rfl (Nat.le_of_ble_eq_true rfl) (E_st hg) (gs_up e3) dX4_copyFrom_75 (fun H locs hw hS => ?_)
    refine lv_aload_n hx hb dX4_copyFrom_78 rfl (lv_at hl 0 rfl) ?_
    refine lv_aload_n hx hb dX4_copyFrom_79 rfl (lv_at hl 1 rfl) ?_
    refine r_get hx hb hts hown hK hw (v_st hg2 (by decide)) (gs_nec hne hm2) (E_st hg2) inX4 rfl 4 (by decide) k_168 rfl rfl dX4_copyFrom_80 ?_
    obtain ⟨m6, e5, h⟩ := t_lt h
    refine r_put hx hb hts hown hK hcv hw hS (v_st hg (by decide)) gs_atc (E_st hg) inX4 rfl tyX4 tyX4_ok nmX4 4 (by decide) k_168 rfl rfl rfl rfl (Nat.le_of_ble_eq_true rfl) (E_st hg) (gs_up e5) dX4_copyFrom_83 (fun H locs hw hS => ?_)
    refine lv_aload_n hx hb dX4_copyFrom_86 rfl (lv_at hl 0 rfl) ?_
    refine lv_aload_n hx hb dX4_copyFrom_87 rfl (lv_at hl 1 rfl) ?_
    refine r_get hx hb hts hown hK hw (v_st hg2 (by decide)) (gs_nec hne hm2) (E_st hg2) inX4 rfl 5 (by decide) k_170 rfl rfl dX4_copyFrom_88 ?_
    obtain ⟨m8, e7, h⟩ := t_lt h
    refine r_put hx hb hts hown hK hcv hw hS (v_st hg (by decide)) gs_atc (E_st hg) inX4 rfl tyX4 tyX4_ok nmX4 5 (by decide) k_170 rfl rfl rfl rfl (Nat.le_of_ble_eq_true rfl) (E_st hg) (gs_up e7) dX4_copyFrom_91 (fun H locs hw hS => ?_)
    have e1 := (t_ret h).1
    have e2 := (t_ret h).2
    exact e_v hx hb hr hlk hw hS (by rw [e2]) dX4_copyFrom_94
  have L33 : ∀ (n : Nat), ∀ (m : SM) (x2 : Int32), f_X4_copyFrom_L33 mz n m x2 = some (r, x) → JL p l e ({ frames := 2, cells := 0, slots := 0, locals := 81 } : Room) s md args below meth c D cy ad (MQ below (QV D cy ad (gs M0 g x)) args s 0 0 (AD ad)) (gs M0 g m) 3 [(0, .ref (ad g 0)), (1, .ref (ad g2 0)), (2, .int x2)] 33 [] := by
    intro n
    induction n with
    | zero =>
      intro m x2 h
      cases h
    | succ n ih =>
      intro m x2 h H locs hw hS ls hl
      rw [f_X4_copyFrom_L33.eq_2] at h
      refine lv_iload_n hx hb dX4_copyFrom_33 rfl (lv_at hl 2 rfl) ?_
      refine lv_aload_n hx hb dX4_copyFrom_34 rfl (lv_at hl 1 rfl) ?_
      refine r_get hx hb hts hown hK hw (v_st hg2 (by decide)) (gs_nec hne hm2) (E_st hg2) inX4 rfl 3 (by decide) k_166 rfl rfl dX4_copyFrom_35 ?_
      refine lv_icmp_ge (tgt := 62) hx hb dX4_copyFrom_38 (by decide) (fun q1 => ?_) (fun q1 => ?_)
      · replace h := t_pos h q1
        exact L62 m h H locs hw hS ls (lv_sub hl [0, 1] rfl)
      · replace h := t_neg h q1
        refine lv_aload_n hx hb dX4_copyFrom_41 rfl (lv_at hl 0 rfl) ?_
        refine r_get hx hb hts hown hK hw (v_st hg (by decide)) gs_atc (E_st hg) inX4 rfl 1 (by decide) k_162 rfl rfl dX4_copyFrom_42 ?_
        refine lv_iload_n hx hb dX4_copyFrom_45 rfl (lv_at hl 2 rfl) ?_
        obtain ⟨q2, h⟩ := t_gd h
        refine r_aald hx hb hK hw (v_st hg (by decide)) (t0 := 3) rfl (E_qa hg) (v := .ref (ad g (19 + x2.toNatClampNeg))) rfl q2 dX4_copyFrom_46 ?_
        refine lv_aload_n hx hb dX4_copyFrom_47 rfl (lv_at hl 1 rfl) ?_
        refine r_get hx hb hts hown hK hw (v_st hg2 (by decide)) (gs_nec hne hm2) (E_st hg2) inX4 rfl 1 (by decide) k_162 rfl rfl dX4_copyFrom_48 ?_
        refine lv_iload_n hx hb dX4_copyFrom_51 rfl (lv_at hl 2 rfl) ?_
        obtain ⟨q3, h⟩ := t_gd h
        refine r_aald hx hb hK hw (v_st hg2 (by decide)) (t0 := 3) rfl (E_qa hg2) (v := .ref (ad g2 (19 + x2.toNatClampNeg))) rfl q3 dX4_copyFrom_52 ?_
        obtain ⟨r5, m6, y4, h⟩ := t_bd h
        refine c_vv hx hb hml hown hts hK hw hS (fun _ h => h) (As := [.ref (ad g2 (19 + x2.toNatClampNeg))]) (rest := []) (c_X3_copyFrom hcv (g := g) (hg := hg) (i := x2.toNatClampNeg) (hi := (vin q2)) (g2 := g2) (hg2 := hg2) (i2 := x2.toNatClampNeg) (hi2 := (vin q3)) (M0 := gs M0 g m) (m := m) (hm := gs_at) (mz := mz) (hne := hne) (hm2 := gs_nem hne hm2) y4) cf_X3_copyFrom k_246 rfl rfl ⟨Nat.le_of_ble_eq_true rfl, Nat.le_of_ble_eq_true rfl⟩ (r_recv hK hw (v_qu hg (vin q2)) (E_qu hg) rfl) rfl hl.1 rfl (Nat.le_of_ble_eq_true rfl) ⟨Nat.le_refl _, Nat.le_refl _⟩ dX4_copyFrom_53 (fun H locs hw hS => ?_)
        rw [gs_gs] at hw
        refine lv_iinc (v := (x2 + (nI 1))) (lv' := [(2, .int (x2 + (nI 1))), (0, .ref (ad g 0)), (1, .ref (ad g2 0))]) hx hb dX4_copyFrom_56 hl (k := 2) rfl rfl (by decide) rfl (fun ls hl => ?_)
        refine lv_goto (tgt := 33) hx hb dX4_copyFrom_59 (by decide) ?_
        exact ih m6 (x2 + (nI 1)) h H locs hw hS ls (lv_sub hl [1, 2, 0] rfl)
  have L31 : ∀ (m : SM), f_X4_copyFrom_L31 mz m = some (r, x) → JL p l e ({ frames := 2, cells := 0, slots := 0, locals := 81 } : Room) s md args below meth c D cy ad (MQ below (QV D cy ad (gs M0 g x)) args s 0 0 (AD ad)) (gs M0 g m) 3 [(0, .ref (ad g 0)), (1, .ref (ad g2 0))] 31 [] := by
    intro m h H locs hw hS ls hl
    unfold f_X4_copyFrom_L31 at h
    refine lv_iconst (v := nI 0) hx hb dX4_copyFrom_31 (by decide) ?_
    refine lv_istore_n (lv' := [(2, .int (nI 0)), (0, .ref (ad g 0)), (1, .ref (ad g2 0))]) hx hb dX4_copyFrom_32 rfl hl (by decide) rfl (fun ls hl => ?_)
    exact L33 FU m (nI 0) h H locs hw hS ls (lv_sub hl [1, 2, 0] rfl)
  have L2 : ∀ (n : Nat), ∀ (m : SM) (x2 : Int32), f_X4_copyFrom_L2 mz n m x2 = some (r, x) → JL p l e ({ frames := 2, cells := 0, slots := 0, locals := 81 } : Room) s md args below meth c D cy ad (MQ below (QV D cy ad (gs M0 g x)) args s 0 0 (AD ad)) (gs M0 g m) 3 [(0, .ref (ad g 0)), (1, .ref (ad g2 0)), (2, .int x2)] 2 [] := by
    intro n
    induction n with
    | zero =>
      intro m x2 h
      cases h
    | succ n ih =>
      intro m x2 h H locs hw hS ls hl
      rw [f_X4_copyFrom_L2.eq_2] at h
      refine lv_iload_n hx hb dX4_copyFrom_2 rfl (lv_at hl 2 rfl) ?_
      refine lv_aload_n hx hb dX4_copyFrom_3 rfl (lv_at hl 1 rfl) ?_
      refine r_get hx hb hts hown hK hw (v_st hg2 (by decide)) (gs_nec hne hm2) (E_st hg2) inX4 rfl 2 (by decide) k_164 rfl rfl dX4_copyFrom_4 ?_
      refine lv_icmp_ge (tgt := 31) hx hb dX4_copyFrom_7 (by decide) (fun q1 => ?_) (fun q1 => ?_)
      · replace h := t_pos h q1
        exact L31 m h H locs hw hS ls (lv_sub hl [0, 1] rfl)
      · replace h := t_neg h q1
        refine lv_aload_n hx hb dX4_copyFrom_10 rfl (lv_at hl 0 rfl) ?_
        refine r_get hx hb hts hown hK hw (v_st hg (by decide)) gs_atc (E_st hg) inX4 rfl 0 (by decide) k_160 rfl rfl dX4_copyFrom_11 ?_
        refine lv_iload_n hx hb dX4_copyFrom_14 rfl (lv_at hl 2 rfl) ?_
        obtain ⟨q2, h⟩ := t_gd h
        refine r_aald hx hb hK hw (v_st hg (by decide)) (t0 := 2) rfl (E_ba hg) (v := .ref (ad g (3 + x2.toNatClampNeg))) rfl q2 dX4_copyFrom_15 ?_
        refine lv_aload_n hx hb dX4_copyFrom_16 rfl (lv_at hl 1 rfl) ?_
        refine r_get hx hb hts hown hK hw (v_st hg2 (by decide)) (gs_nec hne hm2) (E_st hg2) inX4 rfl 0 (by decide) k_160 rfl rfl dX4_copyFrom_17 ?_
        refine lv_iload_n hx hb dX4_copyFrom_20 rfl (lv_at hl 2 rfl) ?_
        obtain ⟨q3, h⟩ := t_gd h
        refine r_aald hx hb hK hw (v_st hg2 (by decide)) (t0 := 2) rfl (E_ba hg2) (v := .ref (ad g2 (3 + x2.toNatClampNeg))) rfl q3 dX4_copyFrom_21 ?_
        obtain ⟨r5, m6, y4, h⟩ := t_bd h
        refine c_vv hx hb hml hown hts hK hw hS (fun _ h => h) (As := [.ref (ad g2 (3 + x2.toNatClampNeg))]) (rest := []) (c_X0_copyFrom hcv (g := g) (hg := hg) (i := x2.toNatClampNeg) (hi := (vin q2)) (g2 := g2) (hg2 := hg2) (i2 := x2.toNatClampNeg) (hi2 := (vin q3)) (M0 := gs M0 g m) (m := m) (hm := gs_at) (mz := mz) (hne := hne) (hm2 := gs_nem hne hm2) y4) cf_X0_copyFrom k_239 rfl rfl ⟨Nat.le_of_ble_eq_true rfl, Nat.le_of_ble_eq_true rfl⟩ (r_recv hK hw (v_bk hg (vin q2)) (E_bk hg (vin q2)) rfl) rfl hl.1 rfl (Nat.le_of_ble_eq_true rfl) ⟨Nat.le_refl _, Nat.le_refl _⟩ dX4_copyFrom_22 (fun H locs hw hS => ?_)
        rw [gs_gs] at hw
        refine lv_iinc (v := (x2 + (nI 1))) (lv' := [(2, .int (x2 + (nI 1))), (0, .ref (ad g 0)), (1, .ref (ad g2 0))]) hx hb dX4_copyFrom_25 hl (k := 2) rfl rfl (by decide) rfl (fun ls hl => ?_)
        refine lv_goto (tgt := 2) hx hb dX4_copyFrom_28 (by decide) ?_
        exact ih m6 (x2 + (nI 1)) h H locs hw hS ls (lv_sub hl [1, 2, 0] rfl)
  unfold f_X4_copyFrom at h
  have main : JL p l e ({ frames := 2, cells := 0, slots := 0, locals := 81 } : Room) s md args below meth c D cy ad (MQ below (QV D cy ad (gs M0 g x)) args s 0 0 (AD ad)) (gs M0 g m) 3 [(0, .ref (ad g 0)), (1, .ref (ad g2 0))] 0 [] := by
    intro H locs hw hS ls hl
    refine lv_iconst (v := nI 0) hx hb dX4_copyFrom_0 (by decide) ?_
    refine lv_istore_n (lv' := [(2, .int (nI 0)), (0, .ref (ad g 0)), (1, .ref (ad g2 0))]) hx hb dX4_copyFrom_1 rfl hl (by decide) rfl (fun ls hl => ?_)
    exact L2 FU m (nI 0) h H locs hw hS ls (lv_sub hl [1, 2, 0] rfl)
  exact main _ _ hw hS ls hl

theorem cf_X2_record : cfV RX2 yX2_record cX2_record 2 none 1 := ⟨⟨k_232, k_233, k_6, k_234⟩, by decide +kernel⟩
def f_X2_record (M : MM) : Option (Int32 × MM) :=
  gn (nI 4) (gd (((M 8 1 1) + (M 8 1 2)) - ((M 8 1 1) + (M 8 1 2)) / (nI 4) * (nI 4)) 4 (bd (f_X4_copyFrom (M (3 + (((M 8 1 1) + (M 8 1 2)) - ((M 8 1 1) + (M 8 1 2)) / (nI 4) * (nI 4)).toNatClampNeg)) (M 0)) fun r5 m6 => lt1 (gs M (3 + (((M 8 1 1) + (M 8 1 2)) - ((M 8 1 1) + (M 8 1 2)) / (nI 4) * (nI 4)).toNatClampNeg) m6) fun M7 => (if (nI 4) ≤ (M7 8 1 2) then gn (nI 4) (lt1 (gs M7 8 (up (M7 8) 1 1 (((M7 8 1 1) + (nI 1)) - ((M7 8 1 1) + (nI 1)) / (nI 4) * (nI 4)))) fun M12 => some (0, M12)) else lt1 (gs M7 8 (up (M7 8) 1 2 ((M7 8 1 2) + (nI 1)))) fun M14 => some (0, M14))))
set_option maxHeartbeats 4000000 in
set_option maxRecDepth 100000 in
theorem c_X2_record {l : Launch} {D : va_G} {cy : Nat → ClassId} {ad : Nat → Nat → Nat} (hcv : CV ad) {M : MM} {r : Int32} {x : MM} (h : f_X2_record M = some (r, x)) : Met l yX2_record (.code yX2_record cX2_record 2 none :: TB) ({ frames := 3, cells := 0, slots := 0, locals := 103 } : Room) (PW D cy ad M [.ref (ad 8 1), .ref (ad 0 0)]) (QV D cy ad x) 0 0 (AD ad) := by
  refine m_in (by decide +kernel) (Nat.le_of_ble_eq_true rfl) ?_
  intro p e s md args below meth c hC hw hS ls hl
  obtain ⟨hx, hb, hr, hml, hown, hts, hK, hlk⟩ := hC
  have hl : lv_has ls 2 [(0, .ref (ad 8 1)), (1, .ref (ad 0 0))] := hl
  unfold f_X2_record at h
  have main : JL p l e ({ frames := 3, cells := 0, slots := 0, locals := 103 } : Room) s md args below meth c D cy ad (MQ below (QV D cy ad x) args s 0 0 (AD ad)) (M) 2 [(0, .ref (ad 8 1)), (1, .ref (ad 0 0))] 0 [] := by
    intro H locs hw hS ls hl
    refine lv_aload_n hx hb dX2_record_0 rfl (lv_at hl 0 rfl) ?_
    refine r_get hx hb hts hown hK hw (v_mn (by decide)) rfl E_hi inX2 rfl 0 (by decide) k_194 rfl rfl dX2_record_1 ?_
    refine lv_aload_n hx hb dX2_record_4 rfl (lv_at hl 0 rfl) ?_
    refine r_get hx hb hts hown hK hw (v_mn (by decide)) rfl E_hi inX2 rfl 1 (by decide) k_195 rfl rfl dX2_record_5 ?_
    refine lv_aload_n hx hb dX2_record_8 rfl (lv_at hl 0 rfl) ?_
    refine r_get hx hb hts hown hK hw (v_mn (by decide)) rfl E_hi inX2 rfl 2 (by decide) k_196 rfl rfl dX2_record_9 ?_
    refine lv_iadd hx hb dX2_record_12 ?_
    refine lv_iconst (v := nI 4) hx hb dX2_record_13 (by decide) ?_
    obtain ⟨q1, h⟩ := t_gn h
    refine lv_irem hx hb dX2_record_14 q1 ?_
    obtain ⟨q2, h⟩ := t_gd h
    have q3 : 3 + (((M 8 1 1) + (M 8 1 2)) - ((M 8 1 1) + (M 8 1 2)) / (nI 4) * (nI 4)).toNatClampNeg < 7 := by have := vin q2; omega
    refine r_aald hx hb hK hw (v_mn (by decide)) (t0 := 4) rfl E_sa (v := .ref (ad (3 + (((M 8 1 1) + (M 8 1 2)) - ((M 8 1 1) + (M 8 1 2)) / (nI 4) * (nI 4)).toNatClampNeg) 0)) rfl q2 dX2_record_15 ?_
    refine lv_aload_n hx hb dX2_record_16 rfl (lv_at hl 1 rfl) ?_
    obtain ⟨r5, m6, y4, h⟩ := t_bd h
    obtain ⟨M7, e8, h⟩ := t_lt h
    refine c_vv hx hb hml hown hts hK hw hS (fun _ h => h) (As := [.ref (ad 0 0)]) (rest := []) (c_X4_copyFrom hcv (g := (3 + (((M 8 1 1) + (M 8 1 2)) - ((M 8 1 1) + (M 8 1 2)) / (nI 4) * (nI 4)).toNatClampNeg)) (hg := q3) (g2 := 0) (hg2 := (by decide)) (M0 := M) (m := M (3 + (((M 8 1 1) + (M 8 1 2)) - ((M 8 1 1) + (M 8 1 2)) / (nI 4) * (nI 4)).toNatClampNeg)) (hm := rfl) (mz := M 0) (hne := by omega) (hm2 := rfl) y4) cf_X4_copyFrom k_235 rfl rfl ⟨Nat.le_of_ble_eq_true rfl, Nat.le_of_ble_eq_true rfl⟩ (r_recv hK hw (v_st q3 (by decide)) (E_st q3) rfl) rfl hl.1 rfl (Nat.le_of_ble_eq_true rfl) ⟨Nat.le_refl _, Nat.le_refl _⟩ dX2_record_17 (fun H locs hw hS => ?_)
    rw [← e8] at hw
    refine lv_aload_n hx hb dX2_record_20 rfl (lv_at hl 0 rfl) ?_
    refine r_get hx hb hts hown hK hw (v_mn (by decide)) rfl E_hi inX2 rfl 2 (by decide) k_196 rfl rfl dX2_record_21 ?_
    refine lv_iconst (v := nI 4) hx hb dX2_record_24 (by decide) ?_
    refine lv_icmp_ge (tgt := 41) hx hb dX2_record_25 (by decide) (fun q9 => ?_) (fun q9 => ?_)
    · replace h := t_pos h q9
      refine lv_aload_n hx hb dX2_record_41 rfl (lv_at hl 0 rfl) ?_
      refine lv_aload_n hx hb dX2_record_42 rfl (lv_at hl 0 rfl) ?_
      refine r_get hx hb hts hown hK hw (v_mn (by decide)) rfl E_hi inX2 rfl 1 (by decide) k_195 rfl rfl dX2_record_43 ?_
      refine lv_iconst (v := nI 1) hx hb dX2_record_46 (by decide) ?_
      refine lv_iadd hx hb dX2_record_47 ?_
      refine lv_iconst (v := nI 4) hx hb dX2_record_48 (by decide) ?_
      obtain ⟨q10, h⟩ := t_gn h
      refine lv_irem hx hb dX2_record_49 q10 ?_
      obtain ⟨M12, e11, h⟩ := t_lt h
      refine r_put hx hb hts hown hK hcv hw hS (v_mn (by decide)) rfl E_hi inX2 rfl tyX2 tyX2_ok nmX2 1 (by decide) k_195 rfl rfl rfl rfl (Nat.le_of_ble_eq_true rfl) E_hi e11.symm dX2_record_50 (fun H locs hw hS => ?_)
      have e1 := (t_ret h).1
      have e2 := (t_ret h).2
      exact e_v hx hb hr hlk hw hS e2 dX2_record_53
    · replace h := t_neg h q9
      refine lv_aload_n hx hb dX2_record_28 rfl (lv_at hl 0 rfl) ?_
      refine lv_dup hx hb dX2_record_29 rfl ?_
      refine r_get hx hb hts hown hK hw (v_mn (by decide)) rfl E_hi inX2 rfl 2 (by decide) k_196 rfl rfl dX2_record_30 ?_
      refine lv_iconst (v := nI 1) hx hb dX2_record_33 (by decide) ?_
      refine lv_iadd hx hb dX2_record_34 ?_
      obtain ⟨M14, e13, h⟩ := t_lt h
      refine r_put hx hb hts hown hK hcv hw hS (v_mn (by decide)) rfl E_hi inX2 rfl tyX2 tyX2_ok nmX2 2 (by decide) k_196 rfl rfl rfl rfl (Nat.le_of_ble_eq_true rfl) E_hi e13.symm dX2_record_35 (fun H locs hw hS => ?_)
      refine lv_goto (tgt := 53) hx hb dX2_record_38 (by decide) ?_
      have e1 := (t_ret h).1
      have e2 := (t_ret h).2
      exact e_v hx hb hr hlk hw hS e2 dX2_record_53
  exact main _ _ hw hS ls hl

theorem cf_X3_finish : cfV RX3 yX3_finish cX3_finish 2 none 1 := ⟨⟨k_290, k_291, k_5, k_292⟩, by decide +kernel⟩
def f_X3_finish (m : SM) (i : Nat) (p0 : Int32) : Option (Int32 × SM) :=
  lt1 (up m (19 + i) 7 p0) fun m2 => lt1 (up m2 (19 + i) 4 (nI 1)) fun m4 => some (0, m4)
set_option maxHeartbeats 4000000 in
set_option maxRecDepth 100000 in
theorem c_X3_finish {l : Launch} {D : va_G} {cy : Nat → ClassId} {ad : Nat → Nat → Nat} (hcv : CV ad) {g : Nat} (hg : g < 7) {i : Nat} (hi : i < 6) {M0 : MM} {m : SM} (hm : M0 g = m) {p0 : Int32} {r : Int32} {x : SM} (h : f_X3_finish m i p0 = some (r, x)) : Met l yX3_finish (.code yX3_finish cX3_finish 2 none :: TB) ({ frames := 0, cells := 0, slots := 0, locals := 0 } : Room) (PW D cy ad M0 [.ref (ad g (19 + i)), .int p0]) (QV D cy ad (gs M0 g x)) 0 0 (AD ad) := by
  refine m_in (by decide +kernel) (Nat.le_of_ble_eq_true rfl) ?_
  intro p e s md args below meth c hC hw hS ls hl
  obtain ⟨hx, hb, hr, hml, hown, hts, hK, hlk⟩ := hC
  have hl : lv_has ls 2 [(0, .ref (ad g (19 + i))), (1, .int p0)] := hl
  rw [← gs_same hm] at hw
  unfold f_X3_finish at h
  have main : JL p l e ({ frames := 0, cells := 0, slots := 0, locals := 0 } : Room) s md args below meth c D cy ad (MQ below (QV D cy ad (gs M0 g x)) args s 0 0 (AD ad)) (gs M0 g m) 2 [(0, .ref (ad g (19 + i))), (1, .int p0)] 0 [] := by
    intro H locs hw hS ls hl
    refine lv_aload_n hx hb dX3_finish_0 rfl (lv_at hl 0 rfl) ?_
    refine lv_iload_n hx hb dX3_finish_1 rfl (lv_at hl 1 rfl) ?_
    obtain ⟨m2, e1, h⟩ := t_lt h
    refine r_put hx hb hts hown hK hcv hw hS (v_qu hg hi) gs_atc (E_qu hg) inX3 rfl tyX3 tyX3_ok nmX3 7 (by decide) k_141 rfl rfl rfl rfl (Nat.le_of_ble_eq_true rfl) (E_qu hg) (gs_up e1) dX3_finish_2 (fun H locs hw hS => ?_)
    refine lv_aload_n hx hb dX3_finish_5 rfl (lv_at hl 0 rfl) ?_
    refine lv_iconst (v := nI 1) hx hb dX3_finish_6 (by decide) ?_
    obtain ⟨m4, e3, h⟩ := t_lt h
    refine r_put hx hb hts hown hK hcv hw hS (v_qu hg hi) gs_atc (E_qu hg) inX3 rfl tyX3 tyX3_ok nmX3 4 (by decide) k_132 rfl rfl rfl rfl (Nat.le_of_ble_eq_true rfl) (E_qu hg) (gs_up e3) dX3_finish_7 (fun H locs hw hS => ?_)
    have e1 := (t_ret h).1
    have e2 := (t_ret h).2
    exact e_v hx hb hr hlk hw hS (by rw [e2]) dX3_finish_10
  exact main _ _ hw hS ls hl

theorem cf_X3_urgency : cfV RX3 yX3_urgency cX3_urgency 2 (some .int) 1 := ⟨⟨k_315, k_316, k_5, k_317⟩, by decide +kernel⟩
def f_X3_urgency (m : SM) (i : Nat) (i2 : Nat) : Option (Int32) :=
  (if (m (19 + i) 0) = (nI 1) then (if (m (19 + i) 2) ≤ (m (3 + i2) 2) then some (nI 0) else (if (m (3 + i2) 3) < (m (19 + i) 2) then some (nI 0) else some (nI 100))) else (if (m (19 + i) 0) = (nI 2) then (if (m (19 + i) 6) ≤ (m (3 + i2) 2) then some (nI 0) else some (nI 100)) else (if (m (19 + i) 0) = (nI 3) then (if (m (3 + i2) 3) ≤ (m (19 + i) 5) then some (nI 0) else some (nI 100)) else (some ((m (3 + i2) 3) - (m (3 + i2) 2))))))
set_option maxHeartbeats 4000000 in
set_option maxRecDepth 100000 in
theorem c_X3_urgency {l : Launch} {D : va_G} {cy : Nat → ClassId} {ad : Nat → Nat → Nat} (hcv : CV ad) {g : Nat} (hg : g < 7) {i : Nat} (hi : i < 6) {i2 : Nat} (hi2 : i2 < 8) {M0 : MM} {m : SM} (hm : M0 g = m) {r : Int32} (h : f_X3_urgency m i i2 = some r) : Met l yX3_urgency (.code yX3_urgency cX3_urgency 2 (some .int) :: TB) ({ frames := 0, cells := 0, slots := 0, locals := 0 } : Room) (PW D cy ad M0 [.ref (ad g (19 + i)), .ref (ad g (3 + i2))]) (QI D cy ad r M0) 0 0 (AD ad) := by
  refine m_in (by decide +kernel) (Nat.le_of_ble_eq_true rfl) ?_
  intro p e s md args below meth c hC hw hS ls hl
  obtain ⟨hx, hb, hr, hml, hown, hts, hK, hlk⟩ := hC
  have hl : lv_has ls 2 [(0, .ref (ad g (19 + i))), (1, .ref (ad g (3 + i2)))] := hl
  rw [← gs_same hm] at hw
  unfold f_X3_urgency at h
  have main : JL p l e ({ frames := 0, cells := 0, slots := 0, locals := 0 } : Room) s md args below meth c D cy ad (MQ below (QI D cy ad r M0) args s 0 0 (AD ad)) (gs M0 g m) 2 [(0, .ref (ad g (19 + i))), (1, .ref (ad g (3 + i2)))] 0 [] := by
    intro H locs hw hS ls hl
    refine lv_aload_n hx hb dX3_urgency_0 rfl (lv_at hl 0 rfl) ?_
    refine r_get hx hb hts hown hK hw (v_qu hg hi) gs_atc (E_qu hg) inX3 rfl 0 (by decide) k_120 rfl rfl dX3_urgency_1 ?_
    by_cases q1 : (m (19 + i) 0) = (nI 1)
    · replace h := t_pos h q1
      refine lv_tableIn (off := 28) (tgt := 32) hx hb dX3_urgency_4 (by rw [q1]; decide) (by rw [q1]; decide) (by rw [q1]; rfl) (by decide) ?_
      refine lv_aload_n hx hb dX3_urgency_32 rfl (lv_at hl 1 rfl) ?_
      refine r_get hx hb hts hown hK hw (v_bk hg hi2) gs_atc (E_bk hg hi2) inX0 rfl 2 (by decide) k_78 rfl rfl dX3_urgency_33 ?_
      refine lv_aload_n hx hb dX3_urgency_36 rfl (lv_at hl 0 rfl) ?_
      refine r_get hx hb hts hown hK hw (v_qu hg hi) gs_atc (E_qu hg) inX3 rfl 2 (by decide) k_126 rfl rfl dX3_urgency_37 ?_
      refine lv_icmp_ge (tgt := 59) hx hb dX3_urgency_40 (by decide) (fun q6 => ?_) (fun q6 => ?_)
      · replace h := t_pos h q6
        refine lv_iconst (v := nI 0) hx hb dX3_urgency_59 (by decide) ?_
        have e1 := Option.some.inj h
        exact e_i hx hb hr hlk hw hS e1 (gs_same hm) dX3_urgency_60
      · replace h := t_neg h q6
        refine lv_aload_n hx hb dX3_urgency_43 rfl (lv_at hl 1 rfl) ?_
        refine r_get hx hb hts hown hK hw (v_bk hg hi2) gs_atc (E_bk hg hi2) inX0 rfl 3 (by decide) k_82 rfl rfl dX3_urgency_44 ?_
        refine lv_aload_n hx hb dX3_urgency_47 rfl (lv_at hl 0 rfl) ?_
        refine r_get hx hb hts hown hK hw (v_qu hg hi) gs_atc (E_qu hg) inX3 rfl 2 (by decide) k_126 rfl rfl dX3_urgency_48 ?_
        refine lv_icmp_lt (tgt := 59) hx hb dX3_urgency_51 (by decide) (fun q7 => ?_) (fun q7 => ?_)
        · replace h := t_pos h q7
          refine lv_iconst (v := nI 0) hx hb dX3_urgency_59 (by decide) ?_
          have e1 := Option.some.inj h
          exact e_i hx hb hr hlk hw hS e1 (gs_same hm) dX3_urgency_60
        · replace h := t_neg h q7
          refine lv_bipush (v := nI 100) hx hb dX3_urgency_54 (by decide) ?_
          refine lv_goto (tgt := 60) hx hb dX3_urgency_56 (by decide) ?_
          have e1 := Option.some.inj h
          exact e_i hx hb hr hlk hw hS e1 (gs_same hm) dX3_urgency_60
    · replace h := t_neg h q1
      by_cases q2 : (m (19 + i) 0) = (nI 2)
      · replace h := t_pos h q2
        refine lv_tableIn (off := 57) (tgt := 61) hx hb dX3_urgency_4 (by rw [q2]; decide) (by rw [q2]; decide) (by rw [q2]; rfl) (by decide) ?_
        refine lv_aload_n hx hb dX3_urgency_61 rfl (lv_at hl 1 rfl) ?_
        refine r_get hx hb hts hown hK hw (v_bk hg hi2) gs_atc (E_bk hg hi2) inX0 rfl 2 (by decide) k_78 rfl rfl dX3_urgency_62 ?_
        refine lv_aload_n hx hb dX3_urgency_65 rfl (lv_at hl 0 rfl) ?_
        refine r_get hx hb hts hown hK hw (v_qu hg hi) gs_atc (E_qu hg) inX3 rfl 6 (by decide) k_138 rfl rfl dX3_urgency_66 ?_
        refine lv_icmp_ge (tgt := 77) hx hb dX3_urgency_69 (by decide) (fun q5 => ?_) (fun q5 => ?_)
        · replace h := t_pos h q5
          refine lv_iconst (v := nI 0) hx hb dX3_urgency_77 (by decide) ?_
          have e1 := Option.some.inj h
          exact e_i hx hb hr hlk hw hS e1 (gs_same hm) dX3_urgency_78
        · replace h := t_neg h q5
          refine lv_bipush (v := nI 100) hx hb dX3_urgency_72 (by decide) ?_
          refine lv_goto (tgt := 78) hx hb dX3_urgency_74 (by decide) ?_
          have e1 := Option.some.inj h
          exact e_i hx hb hr hlk hw hS e1 (gs_same hm) dX3_urgency_78
      · replace h := t_neg h q2
        by_cases q3 : (m (19 + i) 0) = (nI 3)
        · replace h := t_pos h q3
          refine lv_tableIn (off := 75) (tgt := 79) hx hb dX3_urgency_4 (by rw [q3]; decide) (by rw [q3]; decide) (by rw [q3]; rfl) (by decide) ?_
          refine lv_aload_n hx hb dX3_urgency_79 rfl (lv_at hl 1 rfl) ?_
          refine r_get hx hb hts hown hK hw (v_bk hg hi2) gs_atc (E_bk hg hi2) inX0 rfl 3 (by decide) k_82 rfl rfl dX3_urgency_80 ?_
          refine lv_aload_n hx hb dX3_urgency_83 rfl (lv_at hl 0 rfl) ?_
          refine r_get hx hb hts hown hK hw (v_qu hg hi) gs_atc (E_qu hg) inX3 rfl 5 (by decide) k_135 rfl rfl dX3_urgency_84 ?_
          refine lv_icmp_le (tgt := 95) hx hb dX3_urgency_87 (by decide) (fun q4 => ?_) (fun q4 => ?_)
          · replace h := t_pos h q4
            refine lv_iconst (v := nI 0) hx hb dX3_urgency_95 (by decide) ?_
            have e1 := Option.some.inj h
            exact e_i hx hb hr hlk hw hS e1 (gs_same hm) dX3_urgency_96
          · replace h := t_neg h q4
            refine lv_bipush (v := nI 100) hx hb dX3_urgency_90 (by decide) ?_
            refine lv_goto (tgt := 96) hx hb dX3_urgency_92 (by decide) ?_
            have e1 := Option.some.inj h
            exact e_i hx hb hr hlk hw hS e1 (gs_same hm) dX3_urgency_96
        · replace h := t_neg h q3
          refine lv_tableOut (tgt := 97) hx hb dX3_urgency_4 (tab_out (lo := 1) (n := 3) (by decide) (lt_s (lt_s (lt_s lt_0 q1) q2) q3)) (by decide) ?_
          refine lv_aload_n hx hb dX3_urgency_97 rfl (lv_at hl 1 rfl) ?_
          refine r_get hx hb hts hown hK hw (v_bk hg hi2) gs_atc (E_bk hg hi2) inX0 rfl 3 (by decide) k_82 rfl rfl dX3_urgency_98 ?_
          refine lv_aload_n hx hb dX3_urgency_101 rfl (lv_at hl 1 rfl) ?_
          refine r_get hx hb hts hown hK hw (v_bk hg hi2) gs_atc (E_bk hg hi2) inX0 rfl 2 (by decide) k_78 rfl rfl dX3_urgency_102 ?_
          refine lv_isub hx hb dX3_urgency_105 ?_
          have e1 := Option.some.inj h
          exact e_i hx hb hr hlk hw hS e1 (gs_same hm) dX3_urgency_106
  exact main _ _ hw hS ls hl

theorem cf_X4_hasBlock : cfV RX4 yX4_hasBlock cX4_hasBlock 2 (some .boolean) 1 := ⟨⟨k_324, k_325, k_3, k_326⟩, by decide +kernel⟩
def f_X4_hasBlock (m : SM) (p0 : Int32) : Option (Int32) :=
  b1 (f_X5_isFromTo p0 (nI 0) ((m 0 2) - (nI 1))) fun r2 => gz r2 (some r2)
set_option maxHeartbeats 4000000 in
set_option maxRecDepth 100000 in
theorem c_X4_hasBlock {l : Launch} {D : va_G} {cy : Nat → ClassId} {ad : Nat → Nat → Nat} (hcv : CV ad) {g : Nat} (hg : g < 7) {M0 : MM} {m : SM} (hm : M0 g = m) {p0 : Int32} {r : Int32} (h : f_X4_hasBlock m p0 = some r) : Met l yX4_hasBlock (.code yX4_hasBlock cX4_hasBlock 2 (some .boolean) :: TB) ({ frames := 1, cells := 0, slots := 0, locals := 22 } : Room) (PW D cy ad M0 [.ref (ad g 0), .int p0]) (QI D cy ad r M0) 0 0 (AD ad) := by
  refine m_in (by decide +kernel) (Nat.le_of_ble_eq_true rfl) ?_
  intro p e s md args below meth c hC hw hS ls hl
  obtain ⟨hx, hb, hr, hml, hown, hts, hK, hlk⟩ := hC
  have hl : lv_has ls 2 [(0, .ref (ad g 0)), (1, .int p0)] := hl
  rw [← gs_same hm] at hw
  unfold f_X4_hasBlock at h
  have main : JL p l e ({ frames := 1, cells := 0, slots := 0, locals := 22 } : Room) s md args below meth c D cy ad (MQ below (QI D cy ad r M0) args s 0 0 (AD ad)) (gs M0 g m) 2 [(0, .ref (ad g 0)), (1, .int p0)] 0 [] := by
    intro H locs hw hS ls hl
    refine lv_iload_n hx hb dX4_hasBlock_0 rfl (lv_at hl 1 rfl) ?_
    refine lv_iconst (v := nI 0) hx hb dX4_hasBlock_1 (by decide) ?_
    refine lv_aload_n hx hb dX4_hasBlock_2 rfl (lv_at hl 0 rfl) ?_
    refine r_get hx hb hts hown hK hw (v_st hg (by decide)) gs_atc (E_st hg) inX4 rfl 2 (by decide) k_164 rfl rfl dX4_hasBlock_3 ?_
    refine lv_iconst (v := nI 1) hx hb dX4_hasBlock_6 (by decide) ?_
    refine lv_isub hx hb dX4_hasBlock_7 ?_
    obtain ⟨r2, y1, h⟩ := t_b1 h
    refine c_sn hx hb hml hown hts hK hw hS (fun _ h => h) (As := [.int p0, .int (nI 0), .int ((m 0 2) - (nI 1))]) (rest := []) (c_X5_isFromTo hcv (M0 := gs M0 g m) y1) cf_X5_isFromTo k_327n rfl rfl ⟨Nat.le_of_ble_eq_true rfl, Nat.le_of_ble_eq_true rfl⟩ rfl hl.1 rfl (Nat.le_of_ble_eq_true rfl) ⟨Nat.le_refl _, Nat.le_refl _⟩ dX4_hasBlock_8 (fun H locs hw hS => ?_)
    obtain ⟨q3, h⟩ := t_gz h
    have e1 := Option.some.inj h
    exact e_z hx hb hr hlk q3 hw hS e1 (gs_same hm) dX4_hasBlock_11
  exact main _ _ hw hS ls hl

theorem cf_X4_hasRow : cfV RX4 yX4_hasRow cX4_hasRow 3 (some .boolean) 2 := ⟨⟨k_358, k_359, k_3, k_360⟩, by decide +kernel⟩
def f_X4_hasRow (m : SM) (p0 : Int32) (p1 : Int32) : Option (Int32) :=
  b1 (f_X4_hasBlock m p0) fun r2 => (if r2 = (nI 0) then some (nI 0) else gd p0 8 (b1 (f_X5_isFromTo p1 (nI 0) ((m (3 + p0.toNatClampNeg) 4) - (nI 1))) fun r6 => (if r6 = (nI 0) then some (nI 0) else some (nI 1))))
set_option maxHeartbeats 4000000 in
set_option maxRecDepth 100000 in
theorem c_X4_hasRow {l : Launch} {D : va_G} {cy : Nat → ClassId} {ad : Nat → Nat → Nat} (hcv : CV ad) {g : Nat} (hg : g < 7) {M0 : MM} {m : SM} (hm : M0 g = m) {p0 p1 : Int32} {r : Int32} (h : f_X4_hasRow m p0 p1 = some r) : Met l yX4_hasRow (.code yX4_hasRow cX4_hasRow 3 (some .boolean) :: TB) ({ frames := 2, cells := 0, slots := 0, locals := 43 } : Room) (PW D cy ad M0 [.ref (ad g 0), .int p0, .int p1]) (QI D cy ad r M0) 0 0 (AD ad) := by
  refine m_in (by decide +kernel) (Nat.le_of_ble_eq_true rfl) ?_
  intro p e s md args below meth c hC hw hS ls hl
  obtain ⟨hx, hb, hr, hml, hown, hts, hK, hlk⟩ := hC
  have hl : lv_has ls 3 [(0, .ref (ad g 0)), (1, .int p0), (2, .int p1)] := hl
  rw [← gs_same hm] at hw
  unfold f_X4_hasRow at h
  have main : JL p l e ({ frames := 2, cells := 0, slots := 0, locals := 43 } : Room) s md args below meth c D cy ad (MQ below (QI D cy ad r M0) args s 0 0 (AD ad)) (gs M0 g m) 3 [(0, .ref (ad g 0)), (1, .int p0), (2, .int p1)] 0 [] := by
    intro H locs hw hS ls hl
    refine lv_aload_n hx hb dX4_hasRow_0 rfl (lv_at hl 0 rfl) ?_
    refine lv_iload_n hx hb dX4_hasRow_1 rfl (lv_at hl 1 rfl) ?_
    obtain ⟨r2, y1, h⟩ := t_b1 h
    refine c_vi hx hb hml hown hts hK hw hS (fun _ h => h) (As := [.int p0]) (rest := []) (c_X4_hasBlock hcv (g := g) (hg := hg) (M0 := gs M0 g m) (m := m) (hm := gs_at) y1) cf_X4_hasBlock k_323 rfl rfl ⟨Nat.le_of_ble_eq_true rfl, Nat.le_of_ble_eq_true rfl⟩ (r_recv hK hw (v_st hg (by decide)) (E_st hg) rfl) rfl hl.1 rfl (Nat.le_of_ble_eq_true rfl) ⟨Nat.le_refl _, Nat.le_refl _⟩ dX4_hasRow_2 (fun H locs hw hS => ?_)
    refine lv_if_eq (tgt := 31) hx hb dX4_hasRow_5 (by decide) (fun q3 => ?_) (fun q3 => ?_)
    · replace h := t_pos h q3
      refine lv_iconst (v := nI 0) hx hb dX4_hasRow_31 (by decide) ?_
      have e1 := Option.some.inj h
      exact e_z hx hb hr hlk (Or.inl rfl) hw hS e1 (gs_same hm) dX4_hasRow_32
    · replace h := t_neg h q3
      refine lv_iload_n hx hb dX4_hasRow_8 rfl (lv_at hl 2 rfl) ?_
      refine lv_iconst (v := nI 0) hx hb dX4_hasRow_9 (by decide) ?_
      refine lv_aload_n hx hb dX4_hasRow_10 rfl (lv_at hl 0 rfl) ?_
      refine r_get hx hb hts hown hK hw (v_st hg (by decide)) gs_atc (E_st hg) inX4 rfl 0 (by decide) k_160 rfl rfl dX4_hasRow_11 ?_
      refine lv_iload_n hx hb dX4_hasRow_14 rfl (lv_at hl 1 rfl) ?_
      obtain ⟨q4, h⟩ := t_gd h
      refine r_aald hx hb hK hw (v_st hg (by decide)) (t0 := 2) rfl (E_ba hg) (v := .ref (ad g (3 + p0.toNatClampNeg))) rfl q4 dX4_hasRow_15 ?_
      refine r_get hx hb hts hown hK hw (v_bk hg (vin q4)) gs_atc (E_bk hg (vin q4)) inX0 rfl 4 (by decide) k_86 rfl rfl dX4_hasRow_16 ?_
      refine lv_iconst (v := nI 1) hx hb dX4_hasRow_19 (by decide) ?_
      refine lv_isub hx hb dX4_hasRow_20 ?_
      obtain ⟨r6, y5, h⟩ := t_b1 h
      refine c_sn hx hb hml hown hts hK hw hS (fun _ h => h) (As := [.int p1, .int (nI 0), .int ((m (3 + p0.toNatClampNeg) 4) - (nI 1))]) (rest := []) (c_X5_isFromTo hcv (M0 := gs M0 g m) y5) cf_X5_isFromTo k_327n rfl rfl ⟨Nat.le_of_ble_eq_true rfl, Nat.le_of_ble_eq_true rfl⟩ rfl hl.1 rfl (Nat.le_of_ble_eq_true rfl) ⟨Nat.le_refl _, Nat.le_refl _⟩ dX4_hasRow_21 (fun H locs hw hS => ?_)
      refine lv_if_eq (tgt := 31) hx hb dX4_hasRow_24 (by decide) (fun q7 => ?_) (fun q7 => ?_)
      · replace h := t_pos h q7
        refine lv_iconst (v := nI 0) hx hb dX4_hasRow_31 (by decide) ?_
        have e1 := Option.some.inj h
        exact e_z hx hb hr hlk (Or.inl rfl) hw hS e1 (gs_same hm) dX4_hasRow_32
      · replace h := t_neg h q7
        refine lv_iconst (v := nI 1) hx hb dX4_hasRow_27 (by decide) ?_
        refine lv_goto (tgt := 32) hx hb dX4_hasRow_28 (by decide) ?_
        have e1 := Option.some.inj h
        exact e_z hx hb hr hlk (Or.inr rfl) hw hS e1 (gs_same hm) dX4_hasRow_32
  exact main _ _ hw hS ls hl

theorem cf_X4_hasQuestion : cfV RX4 yX4_hasQuestion cX4_hasQuestion 2 (some .boolean) 1 := ⟨⟨k_366, k_367, k_3, k_368⟩, by decide +kernel⟩
def f_X4_hasQuestion (m : SM) (p0 : Int32) : Option (Int32) :=
  b1 (f_X5_isFromTo p0 (nI 0) ((m 0 3) - (nI 1))) fun r2 => gz r2 (some r2)
set_option maxHeartbeats 4000000 in
set_option maxRecDepth 100000 in
theorem c_X4_hasQuestion {l : Launch} {D : va_G} {cy : Nat → ClassId} {ad : Nat → Nat → Nat} (hcv : CV ad) {g : Nat} (hg : g < 7) {M0 : MM} {m : SM} (hm : M0 g = m) {p0 : Int32} {r : Int32} (h : f_X4_hasQuestion m p0 = some r) : Met l yX4_hasQuestion (.code yX4_hasQuestion cX4_hasQuestion 2 (some .boolean) :: TB) ({ frames := 1, cells := 0, slots := 0, locals := 22 } : Room) (PW D cy ad M0 [.ref (ad g 0), .int p0]) (QI D cy ad r M0) 0 0 (AD ad) := by
  refine m_in (by decide +kernel) (Nat.le_of_ble_eq_true rfl) ?_
  intro p e s md args below meth c hC hw hS ls hl
  obtain ⟨hx, hb, hr, hml, hown, hts, hK, hlk⟩ := hC
  have hl : lv_has ls 2 [(0, .ref (ad g 0)), (1, .int p0)] := hl
  rw [← gs_same hm] at hw
  unfold f_X4_hasQuestion at h
  have main : JL p l e ({ frames := 1, cells := 0, slots := 0, locals := 22 } : Room) s md args below meth c D cy ad (MQ below (QI D cy ad r M0) args s 0 0 (AD ad)) (gs M0 g m) 2 [(0, .ref (ad g 0)), (1, .int p0)] 0 [] := by
    intro H locs hw hS ls hl
    refine lv_iload_n hx hb dX4_hasQuestion_0 rfl (lv_at hl 1 rfl) ?_
    refine lv_iconst (v := nI 0) hx hb dX4_hasQuestion_1 (by decide) ?_
    refine lv_aload_n hx hb dX4_hasQuestion_2 rfl (lv_at hl 0 rfl) ?_
    refine r_get hx hb hts hown hK hw (v_st hg (by decide)) gs_atc (E_st hg) inX4 rfl 3 (by decide) k_166 rfl rfl dX4_hasQuestion_3 ?_
    refine lv_iconst (v := nI 1) hx hb dX4_hasQuestion_6 (by decide) ?_
    refine lv_isub hx hb dX4_hasQuestion_7 ?_
    obtain ⟨r2, y1, h⟩ := t_b1 h
    refine c_sn hx hb hml hown hts hK hw hS (fun _ h => h) (As := [.int p0, .int (nI 0), .int ((m 0 3) - (nI 1))]) (rest := []) (c_X5_isFromTo hcv (M0 := gs M0 g m) y1) cf_X5_isFromTo k_327n rfl rfl ⟨Nat.le_of_ble_eq_true rfl, Nat.le_of_ble_eq_true rfl⟩ rfl hl.1 rfl (Nat.le_of_ble_eq_true rfl) ⟨Nat.le_refl _, Nat.le_refl _⟩ dX4_hasQuestion_8 (fun H locs hw hS => ?_)
    obtain ⟨q3, h⟩ := t_gz h
    have e1 := Option.some.inj h
    exact e_z hx hb hr hlk q3 hw hS e1 (gs_same hm) dX4_hasQuestion_11
  exact main _ _ hw hS ls hl

theorem cf_X4_appendBlock : cfV RX4 yX4_appendBlock cX4_appendBlock 2 (some .int) 1 := ⟨⟨k_466, k_467, k_3, k_468⟩, by decide +kernel⟩
def f_X4_appendBlock (m : SM) (mz : SM) : Option (Int32 × SM) :=
  (if (m 0 2) < (nI 8) then gd (m 0 2) 8 (bd (f_X0_copyFromText m mz ((m 0 2).toNatClampNeg)) fun r4 m5 => lt1 (up m5 0 2 ((m5 0 2) + (nI 1))) fun m7 => some (((m7 0 2) - (nI 1)), m7)) else some ((-3 : Int32), m))
set_option maxHeartbeats 4000000 in
set_option maxRecDepth 100000 in
theorem c_X4_appendBlock {l : Launch} {D : va_G} {cy : Nat → ClassId} {ad : Nat → Nat → Nat} (hcv : CV ad) {g : Nat} (hg : g < 7) {M0 : MM} {m : SM} (hm : M0 g = m) (hne : 7 ≠ g) {mz : SM} (hm2 : M0 7 = mz) {r : Int32} {x : SM} (h : f_X4_appendBlock m mz = some (r, x)) : Met l yX4_appendBlock (.code yX4_appendBlock cX4_appendBlock 2 (some .int) :: TB) ({ frames := 4, cells := 0, slots := 0, locals := 85 } : Room) (PW D cy ad M0 [.ref (ad g 0), .ref (ad 7 0)]) (QI D cy ad r (gs M0 g x)) 0 0 (AD ad) := by
  refine m_in (by decide +kernel) (Nat.le_of_ble_eq_true rfl) ?_
  intro p e s md args below meth c hC hw hS ls hl
  obtain ⟨hx, hb, hr, hml, hown, hts, hK, hlk⟩ := hC
  have hl : lv_has ls 2 [(0, .ref (ad g 0)), (1, .ref (ad 7 0))] := hl
  rw [← gs_same hm] at hw
  unfold f_X4_appendBlock at h
  have main : JL p l e ({ frames := 4, cells := 0, slots := 0, locals := 85 } : Room) s md args below meth c D cy ad (MQ below (QI D cy ad r (gs M0 g x)) args s 0 0 (AD ad)) (gs M0 g m) 2 [(0, .ref (ad g 0)), (1, .ref (ad 7 0))] 0 [] := by
    intro H locs hw hS ls hl
    refine lv_aload_n hx hb dX4_appendBlock_0 rfl (lv_at hl 0 rfl) ?_
    refine r_get hx hb hts hown hK hw (v_st hg (by decide)) gs_atc (E_st hg) inX4 rfl 2 (by decide) k_164 rfl rfl dX4_appendBlock_1 ?_
    refine lv_bipush (v := nI 8) hx hb dX4_appendBlock_4 (by decide) ?_
    refine lv_icmp_lt (tgt := 12) hx hb dX4_appendBlock_6 (by decide) (fun q1 => ?_) (fun q1 => ?_)
    · replace h := t_pos h q1
      refine lv_aload_n hx hb dX4_appendBlock_12 rfl (lv_at hl 0 rfl) ?_
      refine r_get hx hb hts hown hK hw (v_st hg (by decide)) gs_atc (E_st hg) inX4 rfl 0 (by decide) k_160 rfl rfl dX4_appendBlock_13 ?_
      refine lv_aload_n hx hb dX4_appendBlock_16 rfl (lv_at hl 0 rfl) ?_
      refine r_get hx hb hts hown hK hw (v_st hg (by decide)) gs_atc (E_st hg) inX4 rfl 2 (by decide) k_164 rfl rfl dX4_appendBlock_17 ?_
      obtain ⟨q2, h⟩ := t_gd h
      refine r_aald hx hb hK hw (v_st hg (by decide)) (t0 := 2) rfl (E_ba hg) (v := .ref (ad g (3 + (m 0 2).toNatClampNeg))) rfl q2 dX4_appendBlock_20 ?_
      refine lv_aload_n hx hb dX4_appendBlock_21 rfl (lv_at hl 1 rfl) ?_
      obtain ⟨r4, m5, y3, h⟩ := t_bd h
      refine c_vv hx hb hml hown hts hK hw hS (fun _ h => h) (As := [.ref (ad 7 0)]) (rest := []) (c_X0_copyFromText hcv (g := g) (hg := hg) (i := (m 0 2).toNatClampNeg) (hi := (vin q2)) (M0 := gs M0 g m) (m := m) (hm := gs_at) (mz := mz) (hne := hne) (hm2 := gs_nem hne hm2) y3) cf_X0_copyFromText k_469 rfl rfl ⟨Nat.le_of_ble_eq_true rfl, Nat.le_of_ble_eq_true rfl⟩ (r_recv hK hw (v_bk hg (vin q2)) (E_bk hg (vin q2)) rfl) rfl hl.1 rfl (Nat.le_of_ble_eq_true rfl) ⟨Nat.le_refl _, Nat.le_refl _⟩ dX4_appendBlock_22 (fun H locs hw hS => ?_)
      rw [gs_gs] at hw
      refine lv_aload_n hx hb dX4_appendBlock_25 rfl (lv_at hl 0 rfl) ?_
      refine lv_dup hx hb dX4_appendBlock_26 rfl ?_
      refine r_get hx hb hts hown hK hw (v_st hg (by decide)) gs_atc (E_st hg) inX4 rfl 2 (by decide) k_164 rfl rfl dX4_appendBlock_27 ?_
      refine lv_iconst (v := nI 1) hx hb dX4_appendBlock_30 (by decide) ?_
      refine lv_iadd hx hb dX4_appendBlock_31 ?_
      obtain ⟨m7, e6, h⟩ := t_lt h
      refine r_put hx hb hts hown hK hcv hw hS (v_st hg (by decide)) gs_atc (E_st hg) inX4 rfl tyX4 tyX4_ok nmX4 2 (by decide) k_164 rfl rfl rfl rfl (Nat.le_of_ble_eq_true rfl) (E_st hg) (gs_up e6) dX4_appendBlock_32 (fun H locs hw hS => ?_)
      refine lv_aload_n hx hb dX4_appendBlock_35 rfl (lv_at hl 0 rfl) ?_
      refine r_get hx hb hts hown hK hw (v_st hg (by decide)) gs_atc (E_st hg) inX4 rfl 2 (by decide) k_164 rfl rfl dX4_appendBlock_36 ?_
      refine lv_iconst (v := nI 1) hx hb dX4_appendBlock_39 (by decide) ?_
      refine lv_isub hx hb dX4_appendBlock_40 ?_
      have e1 := (t_ret h).1
      have e2 := (t_ret h).2
      exact e_i hx hb hr hlk hw hS e1 (by rw [e2]) dX4_appendBlock_41
    · replace h := t_neg h q1
      refine lv_bipush (v := -3) hx hb dX4_appendBlock_9 (by decide) ?_
      have e1 := (t_ret h).1
      have e2 := (t_ret h).2
      exact e_i hx hb hr hlk hw hS e1 (by rw [e2]) dX4_appendBlock_11
  exact main _ _ hw hS ls hl

theorem cf_X4_appendQuestion : cfV RX4 yX4_appendQuestion cX4_appendQuestion 6 (some .int) 4 := ⟨⟨k_488, k_489, k_3, k_490⟩, by decide +kernel⟩
def f_X4_appendQuestion (m : SM) (p0 : Int32) (p1 : Int32) (p2 : Int32) (p3 : Int32) : Option (Int32 × SM) :=
  (if (m 0 3) < (nI 6) then gd (m 0 3) 6 (lt1 (up m (19 + (m 0 3).toNatClampNeg) 0 p0) fun m4 => lt1 (up m4 (19 + (m 0 3).toNatClampNeg) 1 p1) fun m6 => lt1 (up m6 (19 + (m 0 3).toNatClampNeg) 2 p2) fun m8 => lt1 (up m8 (19 + (m 0 3).toNatClampNeg) 3 p3) fun m10 => lt1 (up m10 (19 + (m 0 3).toNatClampNeg) 4 (nI 0)) fun m12 => lt1 (up m12 0 3 ((m12 0 3) + (nI 1))) fun m14 => some (((m14 0 3) - (nI 1)), m14)) else some ((-3 : Int32), m))
set_option maxHeartbeats 4000000 in
set_option maxRecDepth 100000 in
theorem c_X4_appendQuestion {l : Launch} {D : va_G} {cy : Nat → ClassId} {ad : Nat → Nat → Nat} (hcv : CV ad) {g : Nat} (hg : g < 7) {M0 : MM} {m : SM} (hm : M0 g = m) {p0 p1 p2 p3 : Int32} {r : Int32} {x : SM} (h : f_X4_appendQuestion m p0 p1 p2 p3 = some (r, x)) : Met l yX4_appendQuestion (.code yX4_appendQuestion cX4_appendQuestion 6 (some .int) :: TB) ({ frames := 0, cells := 0, slots := 0, locals := 0 } : Room) (PW D cy ad M0 [.ref (ad g 0), .int p0, .int p1, .int p2, .int p3]) (QI D cy ad r (gs M0 g x)) 0 0 (AD ad) := by
  refine m_in (by decide +kernel) (Nat.le_of_ble_eq_true rfl) ?_
  intro p e s md args below meth c hC hw hS ls hl
  obtain ⟨hx, hb, hr, hml, hown, hts, hK, hlk⟩ := hC
  have hl : lv_has ls 6 [(0, .ref (ad g 0)), (1, .int p0), (2, .int p1), (3, .int p2), (4, .int p3)] := hl
  rw [← gs_same hm] at hw
  unfold f_X4_appendQuestion at h
  have main : JL p l e ({ frames := 0, cells := 0, slots := 0, locals := 0 } : Room) s md args below meth c D cy ad (MQ below (QI D cy ad r (gs M0 g x)) args s 0 0 (AD ad)) (gs M0 g m) 6 [(0, .ref (ad g 0)), (1, .int p0), (2, .int p1), (3, .int p2), (4, .int p3)] 0 [] := by
    intro H locs hw hS ls hl
    refine lv_aload_n hx hb dX4_appendQuestion_0 rfl (lv_at hl 0 rfl) ?_
    refine r_get hx hb hts hown hK hw (v_st hg (by decide)) gs_atc (E_st hg) inX4 rfl 3 (by decide) k_166 rfl rfl dX4_appendQuestion_1 ?_
    refine lv_bipush (v := nI 6) hx hb dX4_appendQuestion_4 (by decide) ?_
    refine lv_icmp_lt (tgt := 12) hx hb dX4_appendQuestion_6 (by decide) (fun q1 => ?_) (fun q1 => ?_)
    · replace h := t_pos h q1
      refine lv_aload_n hx hb dX4_appendQuestion_12 rfl (lv_at hl 0 rfl) ?_
      refine r_get hx hb hts hown hK hw (v_st hg (by decide)) gs_atc (E_st hg) inX4 rfl 1 (by decide) k_162 rfl rfl dX4_appendQuestion_13 ?_
      refine lv_aload_n hx hb dX4_appendQuestion_16 rfl (lv_at hl 0 rfl) ?_
      refine r_get hx hb hts hown hK hw (v_st hg (by decide)) gs_atc (E_st hg) inX4 rfl 3 (by decide) k_166 rfl rfl dX4_appendQuestion_17 ?_
      obtain ⟨q2, h⟩ := t_gd h
      refine r_aald hx hb hK hw (v_st hg (by decide)) (t0 := 3) rfl (E_qa hg) (v := .ref (ad g (19 + (m 0 3).toNatClampNeg))) rfl q2 dX4_appendQuestion_20 ?_
      refine lv_astore (lv' := [(5, .ref (ad g (19 + (m 0 3).toNatClampNeg))), (0, .ref (ad g 0)), (1, .int p0), (2, .int p1), (3, .int p2), (4, .int p3)]) hx hb dX4_appendQuestion_21 hl (by decide) rfl (fun ls hl => ?_)
      refine lv_aload hx hb dX4_appendQuestion_23 (lv_at hl 0 rfl) ?_
      refine lv_iload_n hx hb dX4_appendQuestion_25 rfl (lv_at hl 2 rfl) ?_
      obtain ⟨m4, e3, h⟩ := t_lt h
      refine r_put hx hb hts hown hK hcv hw hS (v_qu hg (vin q2)) gs_atc (E_qu hg) inX3 rfl tyX3 tyX3_ok nmX3 0 (by decide) k_121 rfl rfl rfl rfl (Nat.le_of_ble_eq_true rfl) (E_qu hg) (gs_up e3) dX4_appendQuestion_26 (fun H locs hw hS => ?_)
      refine lv_aload hx hb dX4_appendQuestion_29 (lv_at hl 0 rfl) ?_
      refine lv_iload_n hx hb dX4_appendQuestion_31 rfl (lv_at hl 3 rfl) ?_
      obtain ⟨m6, e5, h⟩ := t_lt h
      refine r_put hx hb hts hown hK hcv hw hS (v_qu hg (vin q2)) gs_atc (E_qu hg) inX3 rfl tyX3 tyX3_ok nmX3 1 (by decide) k_124 rfl rfl rfl rfl (Nat.le_of_ble_eq_true rfl) (E_qu hg) (gs_up e5) dX4_appendQuestion_32 (fun H locs hw hS => ?_)
      refine lv_aload hx hb dX4_appendQuestion_35 (lv_at hl 0 rfl) ?_
      refine lv_iload_n hx hb dX4_appendQuestion_37 rfl (lv_at hl 4 rfl) ?_
      obtain ⟨m8, e7, h⟩ := t_lt h
      refine r_put hx hb hts hown hK hcv hw hS (v_qu hg (vin q2)) gs_atc (E_qu hg) inX3 rfl tyX3 tyX3_ok nmX3 2 (by decide) k_127 rfl rfl rfl rfl (Nat.le_of_ble_eq_true rfl) (E_qu hg) (gs_up e7) dX4_appendQuestion_38 (fun H locs hw hS => ?_)
      refine lv_aload hx hb dX4_appendQuestion_41 (lv_at hl 0 rfl) ?_
      refine lv_iload hx hb dX4_appendQuestion_43 (lv_at hl 5 rfl) ?_
      obtain ⟨m10, e9, h⟩ := t_lt h
      refine r_put hx hb hts hown hK hcv hw hS (v_qu hg (vin q2)) gs_atc (E_qu hg) inX3 rfl tyX3 tyX3_ok nmX3 3 (by decide) k_130 rfl rfl rfl rfl (Nat.le_of_ble_eq_true rfl) (E_qu hg) (gs_up e9) dX4_appendQuestion_45 (fun H locs hw hS => ?_)
      refine lv_aload hx hb dX4_appendQuestion_48 (lv_at hl 0 rfl) ?_
      refine lv_iconst (v := nI 0) hx hb dX4_appendQuestion_50 (by decide) ?_
      obtain ⟨m12, e11, h⟩ := t_lt h
      refine r_put hx hb hts hown hK hcv hw hS (v_qu hg (vin q2)) gs_atc (E_qu hg) inX3 rfl tyX3 tyX3_ok nmX3 4 (by decide) k_133 rfl rfl rfl rfl (Nat.le_of_ble_eq_true rfl) (E_qu hg) (gs_up e11) dX4_appendQuestion_51 (fun H locs hw hS => ?_)
      refine lv_aload_n hx hb dX4_appendQuestion_54 rfl (lv_at hl 1 rfl) ?_
      refine lv_dup hx hb dX4_appendQuestion_55 rfl ?_
      refine r_get hx hb hts hown hK hw (v_st hg (by decide)) gs_atc (E_st hg) inX4 rfl 3 (by decide) k_166 rfl rfl dX4_appendQuestion_56 ?_
      refine lv_iconst (v := nI 1) hx hb dX4_appendQuestion_59 (by decide) ?_
      refine lv_iadd hx hb dX4_appendQuestion_60 ?_
      obtain ⟨m14, e13, h⟩ := t_lt h
      refine r_put hx hb hts hown hK hcv hw hS (v_st hg (by decide)) gs_atc (E_st hg) inX4 rfl tyX4 tyX4_ok nmX4 3 (by decide) k_166 rfl rfl rfl rfl (Nat.le_of_ble_eq_true rfl) (E_st hg) (gs_up e13) dX4_appendQuestion_61 (fun H locs hw hS => ?_)
      refine lv_aload_n hx hb dX4_appendQuestion_64 rfl (lv_at hl 1 rfl) ?_
      refine r_get hx hb hts hown hK hw (v_st hg (by decide)) gs_atc (E_st hg) inX4 rfl 3 (by decide) k_166 rfl rfl dX4_appendQuestion_65 ?_
      refine lv_iconst (v := nI 1) hx hb dX4_appendQuestion_68 (by decide) ?_
      refine lv_isub hx hb dX4_appendQuestion_69 ?_
      have e1 := (t_ret h).1
      have e2 := (t_ret h).2
      exact e_i hx hb hr hlk hw hS e1 (by rw [e2]) dX4_appendQuestion_70
    · replace h := t_neg h q1
      refine lv_bipush (v := -3) hx hb dX4_appendQuestion_9 (by decide) ?_
      have e1 := (t_ret h).1
      have e2 := (t_ret h).2
      exact e_i hx hb hr hlk hw hS e1 (by rw [e2]) dX4_appendQuestion_11
  exact main _ _ hw hS ls hl

theorem cf_X5_covers : cfS RX5 yX5_covers cX5_covers 2 (some .boolean) 2 := ⟨⟨k_259, k_1, k_260⟩, by decide +kernel⟩
def f_X5_covers (p0 : Int32) (p1 : Int32) : Option (Int32) :=
  (if ((p0 >>> (p1 &&& 31)) &&& (nI 1)) = (nI 0) then some (nI 0) else some (nI 1))
set_option maxHeartbeats 4000000 in
set_option maxRecDepth 100000 in
theorem c_X5_covers {l : Launch} {D : va_G} {cy : Nat → ClassId} {ad : Nat → Nat → Nat} (hcv : CV ad) {M0 : MM} {p0 p1 : Int32} {r : Int32} (h : f_X5_covers p0 p1 = some r) : Met l yX5_covers (.code yX5_covers cX5_covers 2 (some .boolean) :: TB) ({ frames := 0, cells := 0, slots := 0, locals := 0 } : Room) (PW D cy ad M0 [.int p0, .int p1]) (QI D cy ad r M0) 0 0 (AD ad) := by
  refine m_in (by decide +kernel) (Nat.le_of_ble_eq_true rfl) ?_
  intro p e s md args below meth c hC hw hS ls hl
  obtain ⟨hx, hb, hr, hml, hown, hts, hK, hlk⟩ := hC
  have hl : lv_has ls 2 [(0, .int p0), (1, .int p1)] := hl
  unfold f_X5_covers at h
  have main : JL p l e ({ frames := 0, cells := 0, slots := 0, locals := 0 } : Room) s md args below meth c D cy ad (MQ below (QI D cy ad r M0) args s 0 0 (AD ad)) (M0) 2 [(0, .int p0), (1, .int p1)] 0 [] := by
    intro H locs hw hS ls hl
    refine lv_iload_n hx hb dX5_covers_0 rfl (lv_at hl 0 rfl) ?_
    refine lv_iload_n hx hb dX5_covers_1 rfl (lv_at hl 1 rfl) ?_
    refine lv_ishr hx hb dX5_covers_2 ?_
    refine lv_iconst (v := nI 1) hx hb dX5_covers_3 (by decide) ?_
    refine lv_iand hx hb dX5_covers_4 ?_
    refine lv_if_eq (tgt := 12) hx hb dX5_covers_5 (by decide) (fun q1 => ?_) (fun q1 => ?_)
    · replace h := t_pos h q1
      refine lv_iconst (v := nI 0) hx hb dX5_covers_12 (by decide) ?_
      have e1 := Option.some.inj h
      exact e_z hx hb hr hlk (Or.inl rfl) hw hS e1 rfl dX5_covers_13
    · replace h := t_neg h q1
      refine lv_iconst (v := nI 1) hx hb dX5_covers_8 (by decide) ?_
      refine lv_goto (tgt := 13) hx hb dX5_covers_9 (by decide) ?_
      have e1 := Option.some.inj h
      exact e_z hx hb hr hlk (Or.inr rfl) hw hS e1 rfl dX5_covers_13
  exact main _ _ hw hS ls hl

theorem cf_X4_rows : cfV RX4 yX4_rows cX4_rows 4 (some .int) 1 := ⟨⟨k_255, k_256, k_3, k_257⟩, by decide +kernel⟩
def f_X4_rows_L4 (m : SM) (p0 : Int32) : Nat → Int32 → Int32 → Option (Int32)
  | 0, _, _ => none
  | n + 1, x2, x3 => (if (m 0 2) ≤ x3 then some x2 else gd x3 8 (b1 (f_X5_covers p0 (m (3 + x3.toNatClampNeg) 1)) fun r4 => (if r4 = (nI 0) then f_X4_rows_L4 m p0 n x2 (x3 + (nI 1)) else gd x3 8 (f_X4_rows_L4 m p0 n (x2 + (m (3 + x3.toNatClampNeg) 4)) (x3 + (nI 1))))))
def f_X4_rows (m : SM) (p0 : Int32) : Option (Int32) :=
  f_X4_rows_L4 m p0 FU (nI 0) (nI 0)
set_option maxHeartbeats 4000000 in
set_option maxRecDepth 100000 in
theorem c_X4_rows {l : Launch} {D : va_G} {cy : Nat → ClassId} {ad : Nat → Nat → Nat} (hcv : CV ad) {g : Nat} (hg : g < 7) {M0 : MM} {m : SM} (hm : M0 g = m) {p0 : Int32} {r : Int32} (h : f_X4_rows m p0 = some r) : Met l yX4_rows (.code yX4_rows cX4_rows 4 (some .int) :: TB) ({ frames := 1, cells := 0, slots := 0, locals := 21 } : Room) (PW D cy ad M0 [.ref (ad g 0), .int p0]) (QI D cy ad r M0) 0 0 (AD ad) := by
  refine m_in (by decide +kernel) (Nat.le_of_ble_eq_true rfl) ?_
  intro p e s md args below meth c hC hw hS ls hl
  obtain ⟨hx, hb, hr, hml, hown, hts, hK, hlk⟩ := hC
  have hl : lv_has ls 4 [(0, .ref (ad g 0)), (1, .int p0)] := hl
  rw [← gs_same hm] at hw
  have L4 : ∀ (n : Nat), ∀ (x2 : Int32) (x3 : Int32), f_X4_rows_L4 m p0 n x2 x3 = some r → JL p l e ({ frames := 1, cells := 0, slots := 0, locals := 21 } : Room) s md args below meth c D cy ad (MQ below (QI D cy ad r M0) args s 0 0 (AD ad)) (gs M0 g m) 4 [(0, .ref (ad g 0)), (1, .int p0), (2, .int x2), (3, .int x3)] 4 [] := by
    intro n
    induction n with
    | zero =>
      intro x2 x3 h
      cases h
    | succ n ih =>
      intro x2 x3 h H locs hw hS ls hl
      rw [f_X4_rows_L4.eq_2] at h
      refine lv_iload_n hx hb dX4_rows_4 rfl (lv_at hl 3 rfl) ?_
      refine lv_aload_n hx hb dX4_rows_5 rfl (lv_at hl 0 rfl) ?_
      refine r_get hx hb hts hown hK hw (v_st hg (by decide)) gs_atc (E_st hg) inX4 rfl 2 (by decide) k_164 rfl rfl dX4_rows_6 ?_
      refine lv_icmp_ge (tgt := 46) hx hb dX4_rows_9 (by decide) (fun q1 => ?_) (fun q1 => ?_)
      · replace h := t_pos h q1
        refine lv_iload_n hx hb dX4_rows_46 rfl (lv_at hl 2 rfl) ?_
        have e1 := Option.some.inj h
        exact e_i hx hb hr hlk hw hS e1 (gs_same hm) dX4_rows_47
      · replace h := t_neg h q1
        refine lv_iload_n hx hb dX4_rows_12 rfl (lv_at hl 1 rfl) ?_
        refine lv_aload_n hx hb dX4_rows_13 rfl (lv_at hl 0 rfl) ?_
        refine r_get hx hb hts hown hK hw (v_st hg (by decide)) gs_atc (E_st hg) inX4 rfl 0 (by decide) k_160 rfl rfl dX4_rows_14 ?_
        refine lv_iload_n hx hb dX4_rows_17 rfl (lv_at hl 3 rfl) ?_
        obtain ⟨q2, h⟩ := t_gd h
        refine r_aald hx hb hK hw (v_st hg (by decide)) (t0 := 2) rfl (E_ba hg) (v := .ref (ad g (3 + x3.toNatClampNeg))) rfl q2 dX4_rows_18 ?_
        refine r_get hx hb hts hown hK hw (v_bk hg (vin q2)) gs_atc (E_bk hg (vin q2)) inX0 rfl 1 (by decide) k_75 rfl rfl dX4_rows_19 ?_
        obtain ⟨r4, y3, h⟩ := t_b1 h
        refine c_sn hx hb hml hown hts hK hw hS (fun _ h => h) (As := [.int p0, .int (m (3 + x3.toNatClampNeg) 1)]) (rest := []) (c_X5_covers hcv (M0 := gs M0 g m) y3) cf_X5_covers k_258n rfl rfl ⟨Nat.le_of_ble_eq_true rfl, Nat.le_of_ble_eq_true rfl⟩ rfl hl.1 rfl (Nat.le_of_ble_eq_true rfl) ⟨Nat.le_refl _, Nat.le_refl _⟩ dX4_rows_22 (fun H locs hw hS => ?_)
        refine lv_if_eq (tgt := 40) hx hb dX4_rows_25 (by decide) (fun q5 => ?_) (fun q5 => ?_)
        · replace h := t_pos h q5
          refine lv_iinc (v := (x3 + (nI 1))) (lv' := [(3, .int (x3 + (nI 1))), (0, .ref (ad g 0)), (1, .int p0), (2, .int x2)]) hx hb dX4_rows_40 hl (k := 3) rfl rfl (by decide) rfl (fun ls hl => ?_)
          refine lv_goto (tgt := 4) hx hb dX4_rows_43 (by decide) ?_
          exact ih x2 (x3 + (nI 1)) h H locs hw hS ls (lv_sub hl [1, 2, 3, 0] rfl)
        · replace h := t_neg h q5
          refine lv_iload_n hx hb dX4_rows_28 rfl (lv_at hl 2 rfl) ?_
          refine lv_aload_n hx hb dX4_rows_29 rfl (lv_at hl 0 rfl) ?_
          refine r_get hx hb hts hown hK hw (v_st hg (by decide)) gs_atc (E_st hg) inX4 rfl 0 (by decide) k_160 rfl rfl dX4_rows_30 ?_
          refine lv_iload_n hx hb dX4_rows_33 rfl (lv_at hl 3 rfl) ?_
          obtain ⟨q6, h⟩ := t_gd h
          refine r_aald hx hb hK hw (v_st hg (by decide)) (t0 := 2) rfl (E_ba hg) (v := .ref (ad g (3 + x3.toNatClampNeg))) rfl q6 dX4_rows_34 ?_
          refine r_get hx hb hts hown hK hw (v_bk hg (vin q6)) gs_atc (E_bk hg (vin q6)) inX0 rfl 4 (by decide) k_86 rfl rfl dX4_rows_35 ?_
          refine lv_iadd hx hb dX4_rows_38 ?_
          refine lv_istore_n (lv' := [(2, .int (x2 + (m (3 + x3.toNatClampNeg) 4))), (0, .ref (ad g 0)), (1, .int p0), (3, .int x3)]) hx hb dX4_rows_39 rfl hl (by decide) rfl (fun ls hl => ?_)
          refine lv_iinc (v := (x3 + (nI 1))) (lv' := [(3, .int (x3 + (nI 1))), (2, .int (x2 + (m (3 + x3.toNatClampNeg) 4))), (0, .ref (ad g 0)), (1, .int p0)]) hx hb dX4_rows_40 hl (k := 3) rfl rfl (by decide) rfl (fun ls hl => ?_)
          refine lv_goto (tgt := 4) hx hb dX4_rows_43 (by decide) ?_
          exact ih (x2 + (m (3 + x3.toNatClampNeg) 4)) (x3 + (nI 1)) h H locs hw hS ls (lv_sub hl [2, 3, 1, 0] rfl)
  unfold f_X4_rows at h
  have main : JL p l e ({ frames := 1, cells := 0, slots := 0, locals := 21 } : Room) s md args below meth c D cy ad (MQ below (QI D cy ad r M0) args s 0 0 (AD ad)) (gs M0 g m) 4 [(0, .ref (ad g 0)), (1, .int p0)] 0 [] := by
    intro H locs hw hS ls hl
    refine lv_iconst (v := nI 0) hx hb dX4_rows_0 (by decide) ?_
    refine lv_istore_n (lv' := [(2, .int (nI 0)), (0, .ref (ad g 0)), (1, .int p0)]) hx hb dX4_rows_1 rfl hl (by decide) rfl (fun ls hl => ?_)
    refine lv_iconst (v := nI 0) hx hb dX4_rows_2 (by decide) ?_
    refine lv_istore_n (lv' := [(3, .int (nI 0)), (2, .int (nI 0)), (0, .ref (ad g 0)), (1, .int p0)]) hx hb dX4_rows_3 rfl hl (by decide) rfl (fun ls hl => ?_)
    exact L4 FU (nI 0) (nI 0) h H locs hw hS ls (lv_sub hl [2, 3, 1, 0] rfl)
  exact main _ _ hw hS ls hl

theorem cf_X4_readRows : cfV RX4 yX4_readRows cX4_readRows 4 (some .int) 1 := ⟨⟨k_372, k_373, k_3, k_374⟩, by decide +kernel⟩
def f_X4_readRows_L4 (m : SM) (p0 : Int32) : Nat → Int32 → Int32 → Option (Int32)
  | 0, _, _ => none
  | n + 1, x2, x3 => (if (m 0 2) ≤ x3 then some x2 else gd x3 8 (b1 (f_X5_covers p0 (m (3 + x3.toNatClampNeg) 1)) fun r4 => (if r4 = (nI 0) then f_X4_readRows_L4 m p0 n x2 (x3 + (nI 1)) else gd x3 8 (f_X4_readRows_L4 m p0 n (x2 + (m (3 + x3.toNatClampNeg) 5)) (x3 + (nI 1))))))
def f_X4_readRows (m : SM) (p0 : Int32) : Option (Int32) :=
  f_X4_readRows_L4 m p0 FU (nI 0) (nI 0)
set_option maxHeartbeats 4000000 in
set_option maxRecDepth 100000 in
theorem c_X4_readRows {l : Launch} {D : va_G} {cy : Nat → ClassId} {ad : Nat → Nat → Nat} (hcv : CV ad) {g : Nat} (hg : g < 7) {M0 : MM} {m : SM} (hm : M0 g = m) {p0 : Int32} {r : Int32} (h : f_X4_readRows m p0 = some r) : Met l yX4_readRows (.code yX4_readRows cX4_readRows 4 (some .int) :: TB) ({ frames := 1, cells := 0, slots := 0, locals := 21 } : Room) (PW D cy ad M0 [.ref (ad g 0), .int p0]) (QI D cy ad r M0) 0 0 (AD ad) := by
  refine m_in (by decide +kernel) (Nat.le_of_ble_eq_true rfl) ?_
  intro p e s md args below meth c hC hw hS ls hl
  obtain ⟨hx, hb, hr, hml, hown, hts, hK, hlk⟩ := hC
  have hl : lv_has ls 4 [(0, .ref (ad g 0)), (1, .int p0)] := hl
  rw [← gs_same hm] at hw
  have L4 : ∀ (n : Nat), ∀ (x2 : Int32) (x3 : Int32), f_X4_readRows_L4 m p0 n x2 x3 = some r → JL p l e ({ frames := 1, cells := 0, slots := 0, locals := 21 } : Room) s md args below meth c D cy ad (MQ below (QI D cy ad r M0) args s 0 0 (AD ad)) (gs M0 g m) 4 [(0, .ref (ad g 0)), (1, .int p0), (2, .int x2), (3, .int x3)] 4 [] := by
    intro n
    induction n with
    | zero =>
      intro x2 x3 h
      cases h
    | succ n ih =>
      intro x2 x3 h H locs hw hS ls hl
      rw [f_X4_readRows_L4.eq_2] at h
      refine lv_iload_n hx hb dX4_readRows_4 rfl (lv_at hl 3 rfl) ?_
      refine lv_aload_n hx hb dX4_readRows_5 rfl (lv_at hl 0 rfl) ?_
      refine r_get hx hb hts hown hK hw (v_st hg (by decide)) gs_atc (E_st hg) inX4 rfl 2 (by decide) k_164 rfl rfl dX4_readRows_6 ?_
      refine lv_icmp_ge (tgt := 46) hx hb dX4_readRows_9 (by decide) (fun q1 => ?_) (fun q1 => ?_)
      · replace h := t_pos h q1
        refine lv_iload_n hx hb dX4_readRows_46 rfl (lv_at hl 2 rfl) ?_
        have e1 := Option.some.inj h
        exact e_i hx hb hr hlk hw hS e1 (gs_same hm) dX4_readRows_47
      · replace h := t_neg h q1
        refine lv_iload_n hx hb dX4_readRows_12 rfl (lv_at hl 1 rfl) ?_
        refine lv_aload_n hx hb dX4_readRows_13 rfl (lv_at hl 0 rfl) ?_
        refine r_get hx hb hts hown hK hw (v_st hg (by decide)) gs_atc (E_st hg) inX4 rfl 0 (by decide) k_160 rfl rfl dX4_readRows_14 ?_
        refine lv_iload_n hx hb dX4_readRows_17 rfl (lv_at hl 3 rfl) ?_
        obtain ⟨q2, h⟩ := t_gd h
        refine r_aald hx hb hK hw (v_st hg (by decide)) (t0 := 2) rfl (E_ba hg) (v := .ref (ad g (3 + x3.toNatClampNeg))) rfl q2 dX4_readRows_18 ?_
        refine r_get hx hb hts hown hK hw (v_bk hg (vin q2)) gs_atc (E_bk hg (vin q2)) inX0 rfl 1 (by decide) k_75 rfl rfl dX4_readRows_19 ?_
        obtain ⟨r4, y3, h⟩ := t_b1 h
        refine c_sn hx hb hml hown hts hK hw hS (fun _ h => h) (As := [.int p0, .int (m (3 + x3.toNatClampNeg) 1)]) (rest := []) (c_X5_covers hcv (M0 := gs M0 g m) y3) cf_X5_covers k_258n rfl rfl ⟨Nat.le_of_ble_eq_true rfl, Nat.le_of_ble_eq_true rfl⟩ rfl hl.1 rfl (Nat.le_of_ble_eq_true rfl) ⟨Nat.le_refl _, Nat.le_refl _⟩ dX4_readRows_22 (fun H locs hw hS => ?_)
        refine lv_if_eq (tgt := 40) hx hb dX4_readRows_25 (by decide) (fun q5 => ?_) (fun q5 => ?_)
        · replace h := t_pos h q5
          refine lv_iinc (v := (x3 + (nI 1))) (lv' := [(3, .int (x3 + (nI 1))), (0, .ref (ad g 0)), (1, .int p0), (2, .int x2)]) hx hb dX4_readRows_40 hl (k := 3) rfl rfl (by decide) rfl (fun ls hl => ?_)
          refine lv_goto (tgt := 4) hx hb dX4_readRows_43 (by decide) ?_
          exact ih x2 (x3 + (nI 1)) h H locs hw hS ls (lv_sub hl [1, 2, 3, 0] rfl)
        · replace h := t_neg h q5
          refine lv_iload_n hx hb dX4_readRows_28 rfl (lv_at hl 2 rfl) ?_
          refine lv_aload_n hx hb dX4_readRows_29 rfl (lv_at hl 0 rfl) ?_
          refine r_get hx hb hts hown hK hw (v_st hg (by decide)) gs_atc (E_st hg) inX4 rfl 0 (by decide) k_160 rfl rfl dX4_readRows_30 ?_
          refine lv_iload_n hx hb dX4_readRows_33 rfl (lv_at hl 3 rfl) ?_
          obtain ⟨q6, h⟩ := t_gd h
          refine r_aald hx hb hK hw (v_st hg (by decide)) (t0 := 2) rfl (E_ba hg) (v := .ref (ad g (3 + x3.toNatClampNeg))) rfl q6 dX4_readRows_34 ?_
          refine r_get hx hb hts hown hK hw (v_bk hg (vin q6)) gs_atc (E_bk hg (vin q6)) inX0 rfl 5 (by decide) k_89 rfl rfl dX4_readRows_35 ?_
          refine lv_iadd hx hb dX4_readRows_38 ?_
          refine lv_istore_n (lv' := [(2, .int (x2 + (m (3 + x3.toNatClampNeg) 5))), (0, .ref (ad g 0)), (1, .int p0), (3, .int x3)]) hx hb dX4_readRows_39 rfl hl (by decide) rfl (fun ls hl => ?_)
          refine lv_iinc (v := (x3 + (nI 1))) (lv' := [(3, .int (x3 + (nI 1))), (2, .int (x2 + (m (3 + x3.toNatClampNeg) 5))), (0, .ref (ad g 0)), (1, .int p0)]) hx hb dX4_readRows_40 hl (k := 3) rfl rfl (by decide) rfl (fun ls hl => ?_)
          refine lv_goto (tgt := 4) hx hb dX4_readRows_43 (by decide) ?_
          exact ih (x2 + (m (3 + x3.toNatClampNeg) 5)) (x3 + (nI 1)) h H locs hw hS ls (lv_sub hl [2, 3, 1, 0] rfl)
  unfold f_X4_readRows at h
  have main : JL p l e ({ frames := 1, cells := 0, slots := 0, locals := 21 } : Room) s md args below meth c D cy ad (MQ below (QI D cy ad r M0) args s 0 0 (AD ad)) (gs M0 g m) 4 [(0, .ref (ad g 0)), (1, .int p0)] 0 [] := by
    intro H locs hw hS ls hl
    refine lv_iconst (v := nI 0) hx hb dX4_readRows_0 (by decide) ?_
    refine lv_istore_n (lv' := [(2, .int (nI 0)), (0, .ref (ad g 0)), (1, .int p0)]) hx hb dX4_readRows_1 rfl hl (by decide) rfl (fun ls hl => ?_)
    refine lv_iconst (v := nI 0) hx hb dX4_readRows_2 (by decide) ?_
    refine lv_istore_n (lv' := [(3, .int (nI 0)), (2, .int (nI 0)), (0, .ref (ad g 0)), (1, .int p0)]) hx hb dX4_readRows_3 rfl hl (by decide) rfl (fun ls hl => ?_)
    exact L4 FU (nI 0) (nI 0) h H locs hw hS ls (lv_sub hl [2, 3, 1, 0] rfl)
  exact main _ _ hw hS ls hl

theorem cf_X4_openQuestions : cfV RX4 yX4_openQuestions cX4_openQuestions 3 (some .int) 0 := ⟨⟨k_338, k_339, k_3, k_340⟩, by decide +kernel⟩
def f_X4_openQuestions_L4 (m : SM) : Nat → Int32 → Int32 → Option (Int32)
  | 0, _, _ => none
  | n + 1, x1, x2 => (if (m 0 3) ≤ x2 then some x1 else gd x2 6 ((if (m (19 + x2.toNatClampNeg) 4) = (nI 0) then f_X4_openQuestions_L4 m n (x1 + (nI 1)) (x2 + (nI 1)) else f_X4_openQuestions_L4 m n x1 (x2 + (nI 1)))))
def f_X4_openQuestions (m : SM) : Option (Int32) :=
  f_X4_openQuestions_L4 m FU (nI 0) (nI 0)
set_option maxHeartbeats 4000000 in
set_option maxRecDepth 100000 in
theorem c_X4_openQuestions {l : Launch} {D : va_G} {cy : Nat → ClassId} {ad : Nat → Nat → Nat} (hcv : CV ad) {g : Nat} (hg : g < 7) {M0 : MM} {m : SM} (hm : M0 g = m) {r : Int32} (h : f_X4_openQuestions m = some r) : Met l yX4_openQuestions (.code yX4_openQuestions cX4_openQuestions 3 (some .int) :: TB) ({ frames := 0, cells := 0, slots := 0, locals := 0 } : Room) (PW D cy ad M0 [.ref (ad g 0)]) (QI D cy ad r M0) 0 0 (AD ad) := by
  refine m_in (by decide +kernel) (Nat.le_of_ble_eq_true rfl) ?_
  intro p e s md args below meth c hC hw hS ls hl
  obtain ⟨hx, hb, hr, hml, hown, hts, hK, hlk⟩ := hC
  have hl : lv_has ls 3 [(0, .ref (ad g 0))] := hl
  rw [← gs_same hm] at hw
  have L4 : ∀ (n : Nat), ∀ (x1 : Int32) (x2 : Int32), f_X4_openQuestions_L4 m n x1 x2 = some r → JL p l e ({ frames := 0, cells := 0, slots := 0, locals := 0 } : Room) s md args below meth c D cy ad (MQ below (QI D cy ad r M0) args s 0 0 (AD ad)) (gs M0 g m) 3 [(0, .ref (ad g 0)), (1, .int x1), (2, .int x2)] 4 [] := by
    intro n
    induction n with
    | zero =>
      intro x1 x2 h
      cases h
    | succ n ih =>
      intro x1 x2 h H locs hw hS ls hl
      rw [f_X4_openQuestions_L4.eq_2] at h
      refine lv_iload_n hx hb dX4_openQuestions_4 rfl (lv_at hl 2 rfl) ?_
      refine lv_aload_n hx hb dX4_openQuestions_5 rfl (lv_at hl 0 rfl) ?_
      refine r_get hx hb hts hown hK hw (v_st hg (by decide)) gs_atc (E_st hg) inX4 rfl 3 (by decide) k_166 rfl rfl dX4_openQuestions_6 ?_
      refine lv_icmp_ge (tgt := 33) hx hb dX4_openQuestions_9 (by decide) (fun q1 => ?_) (fun q1 => ?_)
      · replace h := t_pos h q1
        refine lv_iload_n hx hb dX4_openQuestions_33 rfl (lv_at hl 1 rfl) ?_
        have e1 := Option.some.inj h
        exact e_i hx hb hr hlk hw hS e1 (gs_same hm) dX4_openQuestions_34
      · replace h := t_neg h q1
        refine lv_aload_n hx hb dX4_openQuestions_12 rfl (lv_at hl 0 rfl) ?_
        refine r_get hx hb hts hown hK hw (v_st hg (by decide)) gs_atc (E_st hg) inX4 rfl 1 (by decide) k_162 rfl rfl dX4_openQuestions_13 ?_
        refine lv_iload_n hx hb dX4_openQuestions_16 rfl (lv_at hl 2 rfl) ?_
        obtain ⟨q2, h⟩ := t_gd h
        refine r_aald hx hb hK hw (v_st hg (by decide)) (t0 := 3) rfl (E_qa hg) (v := .ref (ad g (19 + x2.toNatClampNeg))) rfl q2 dX4_openQuestions_17 ?_
        refine r_get hx hb hts hown hK hw (v_qu hg (vin q2)) gs_atc (E_qu hg) inX3 rfl 4 (by decide) k_133 rfl rfl dX4_openQuestions_18 ?_
        refine lv_if_ne (tgt := 27) hx hb dX4_openQuestions_21 (by decide) (fun q3 => ?_) (fun q3 => ?_)
        · replace h := t_neg h q3
          refine lv_iinc (v := (x2 + (nI 1))) (lv' := [(2, .int (x2 + (nI 1))), (0, .ref (ad g 0)), (1, .int x1)]) hx hb dX4_openQuestions_27 hl (k := 2) rfl rfl (by decide) rfl (fun ls hl => ?_)
          refine lv_goto (tgt := 4) hx hb dX4_openQuestions_30 (by decide) ?_
          exact ih x1 (x2 + (nI 1)) h H locs hw hS ls (lv_sub hl [1, 2, 0] rfl)
        · replace h := t_pos h q3
          refine lv_iinc (v := (x1 + (nI 1))) (lv' := [(1, .int (x1 + (nI 1))), (0, .ref (ad g 0)), (2, .int x2)]) hx hb dX4_openQuestions_24 hl (k := 1) rfl rfl (by decide) rfl (fun ls hl => ?_)
          refine lv_iinc (v := (x2 + (nI 1))) (lv' := [(2, .int (x2 + (nI 1))), (1, .int (x1 + (nI 1))), (0, .ref (ad g 0))]) hx hb dX4_openQuestions_27 hl (k := 2) rfl rfl (by decide) rfl (fun ls hl => ?_)
          refine lv_goto (tgt := 4) hx hb dX4_openQuestions_30 (by decide) ?_
          exact ih (x1 + (nI 1)) (x2 + (nI 1)) h H locs hw hS ls (lv_sub hl [2, 1, 0] rfl)
  unfold f_X4_openQuestions at h
  have main : JL p l e ({ frames := 0, cells := 0, slots := 0, locals := 0 } : Room) s md args below meth c D cy ad (MQ below (QI D cy ad r M0) args s 0 0 (AD ad)) (gs M0 g m) 3 [(0, .ref (ad g 0))] 0 [] := by
    intro H locs hw hS ls hl
    refine lv_iconst (v := nI 0) hx hb dX4_openQuestions_0 (by decide) ?_
    refine lv_istore_n (lv' := [(1, .int (nI 0)), (0, .ref (ad g 0))]) hx hb dX4_openQuestions_1 rfl hl (by decide) rfl (fun ls hl => ?_)
    refine lv_iconst (v := nI 0) hx hb dX4_openQuestions_2 (by decide) ?_
    refine lv_istore_n (lv' := [(2, .int (nI 0)), (1, .int (nI 0)), (0, .ref (ad g 0))]) hx hb dX4_openQuestions_3 rfl hl (by decide) rfl (fun ls hl => ?_)
    exact L4 FU (nI 0) (nI 0) h H locs hw hS ls (lv_sub hl [2, 1, 0] rfl)
  exact main _ _ hw hS ls hl

theorem cf_X4_assumed : cfV RX4 yX4_assumed cX4_assumed 6 (some .int) 2 := ⟨⟨k_266, k_267, k_3, k_268⟩, by decide +kernel⟩
def f_X4_assumed_L87 (m : SM) (i : Nat) (p0 : Int32) (x3 : Int32) (x4 : Int32) : Option (Int32) :=
  (if x3 = (nI 0) then gn (nI 2) (some (((m (3 + i) 2) + (m (3 + i) 3)) / (nI 2))) else gn x3 (some (mx (m (3 + i) 2) (mn (m (3 + i) 3) (x4 / x3)))))
def f_X4_assumed_L27 (m : SM) (i : Nat) (p0 : Int32) : Nat → Int32 → Int32 → Int32 → Option (Int32)
  | 0, _, _, _ => none
  | n + 1, x3, x4, x5 => (if (m 0 2) ≤ x5 then f_X4_assumed_L87 m i p0 x3 x4 else gd x5 8 ((if (m (3 + x5.toNatClampNeg) 1) = (m (3 + i) 1) then gd x5 8 (gd x5 8 (f_X4_assumed_L27 m i p0 n (x3 + (m (3 + x5.toNatClampNeg) 5)) (x4 + (m (3 + x5.toNatClampNeg) 6)) (x5 + (nI 1)))) else f_X4_assumed_L27 m i p0 n x3 x4 (x5 + (nI 1)))))
def f_X4_assumed (m : SM) (i : Nat) (p0 : Int32) : Option (Int32) :=
  (if p0 = (nI 0) then some (m (3 + i) 2) else (if p0 = (nI 1) then some (m (3 + i) 3) else f_X4_assumed_L27 m i p0 FU (nI 0) (nI 0) (nI 0)))
set_option maxHeartbeats 4000000 in
set_option maxRecDepth 100000 in
theorem c_X4_assumed {l : Launch} {D : va_G} {cy : Nat → ClassId} {ad : Nat → Nat → Nat} (hcv : CV ad) {g : Nat} (hg : g < 7) {i : Nat} (hi : i < 8) {M0 : MM} {m : SM} (hm : M0 g = m) {p0 : Int32} {r : Int32} (h : f_X4_assumed m i p0 = some r) : Met l yX4_assumed (.code yX4_assumed cX4_assumed 6 (some .int) :: TB) ({ frames := 1, cells := 0, slots := 0, locals := 21 } : Room) (PW D cy ad M0 [.ref (ad g 0), .ref (ad g (3 + i)), .int p0]) (QI D cy ad r M0) 0 0 (AD ad) := by
  refine m_in (by decide +kernel) (Nat.le_of_ble_eq_true rfl) ?_
  intro p e s md args below meth c hC hw hS ls hl
  obtain ⟨hx, hb, hr, hml, hown, hts, hK, hlk⟩ := hC
  have hl : lv_has ls 6 [(0, .ref (ad g 0)), (1, .ref (ad g (3 + i))), (2, .int p0)] := hl
  rw [← gs_same hm] at hw
  have L87 : ∀ (x3 : Int32) (x4 : Int32), f_X4_assumed_L87 m i p0 x3 x4 = some r → JL p l e ({ frames := 1, cells := 0, slots := 0, locals := 21 } : Room) s md args below meth c D cy ad (MQ below (QI D cy ad r M0) args s 0 0 (AD ad)) (gs M0 g m) 6 [(1, .ref (ad g (3 + i))), (3, .int x3), (4, .int x4)] 87 [] := by
    intro x3 x4 h H locs hw hS ls hl
    unfold f_X4_assumed_L87 at h
    refine lv_iload_n hx hb dX4_assumed_87 rfl (lv_at hl 1 rfl) ?_
    refine lv_if_ne (tgt := 103) hx hb dX4_assumed_88 (by decide) (fun q1 => ?_) (fun q1 => ?_)
    · replace h := t_neg h q1
      refine lv_aload_n hx hb dX4_assumed_103 rfl (lv_at hl 0 rfl) ?_
      refine r_get hx hb hts hown hK hw (v_bk hg hi) gs_atc (E_bk hg hi) inX0 rfl 2 (by decide) k_79 rfl rfl dX4_assumed_104 ?_
      refine lv_aload_n hx hb dX4_assumed_107 rfl (lv_at hl 0 rfl) ?_
      refine r_get hx hb hts hown hK hw (v_bk hg hi) gs_atc (E_bk hg hi) inX0 rfl 3 (by decide) k_83 rfl rfl dX4_assumed_108 ?_
      refine lv_iload hx hb dX4_assumed_111 (lv_at hl 2 rfl) ?_
      refine lv_iload_n hx hb dX4_assumed_113 rfl (lv_at hl 1 rfl) ?_
      obtain ⟨q2, h⟩ := t_gn h
      refine lv_idiv hx hb dX4_assumed_114 q2 ?_
      refine r_min hx hb hts (hml.trans hl.1.symm) hown k_269 k_270 k_8 k_271 (Nat.le_of_ble_eq_true rfl) (Nat.le_of_ble_eq_true rfl) (Nat.le_of_ble_eq_true rfl) (Nat.le_of_ble_eq_true rfl) dX4_assumed_115 ?_
      refine r_max hx hb hts (hml.trans hl.1.symm) hown k_272 k_273 k_8 k_274 (Nat.le_of_ble_eq_true rfl) (Nat.le_of_ble_eq_true rfl) (Nat.le_of_ble_eq_true rfl) (Nat.le_of_ble_eq_true rfl) dX4_assumed_118 ?_
      have e1 := Option.some.inj h
      exact e_i hx hb hr hlk hw hS e1 (gs_same hm) dX4_assumed_121
    · replace h := t_pos h q1
      refine lv_aload_n hx hb dX4_assumed_91 rfl (lv_at hl 0 rfl) ?_
      refine r_get hx hb hts hown hK hw (v_bk hg hi) gs_atc (E_bk hg hi) inX0 rfl 2 (by decide) k_79 rfl rfl dX4_assumed_92 ?_
      refine lv_aload_n hx hb dX4_assumed_95 rfl (lv_at hl 0 rfl) ?_
      refine r_get hx hb hts hown hK hw (v_bk hg hi) gs_atc (E_bk hg hi) inX0 rfl 3 (by decide) k_83 rfl rfl dX4_assumed_96 ?_
      refine lv_iadd hx hb dX4_assumed_99 ?_
      refine lv_iconst (v := nI 2) hx hb dX4_assumed_100 (by decide) ?_
      obtain ⟨q3, h⟩ := t_gn h
      refine lv_idiv hx hb dX4_assumed_101 q3 ?_
      have e1 := Option.some.inj h
      exact e_i hx hb hr hlk hw hS e1 (gs_same hm) dX4_assumed_102
  have L27 : ∀ (n : Nat), ∀ (x3 : Int32) (x4 : Int32) (x5 : Int32), f_X4_assumed_L27 m i p0 n x3 x4 x5 = some r → JL p l e ({ frames := 1, cells := 0, slots := 0, locals := 21 } : Room) s md args below meth c D cy ad (MQ below (QI D cy ad r M0) args s 0 0 (AD ad)) (gs M0 g m) 6 [(0, .ref (ad g 0)), (1, .ref (ad g (3 + i))), (3, .int x3), (4, .int x4), (5, .int x5)] 27 [] := by
    intro n
    induction n with
    | zero =>
      intro x3 x4 x5 h
      cases h
    | succ n ih =>
      intro x3 x4 x5 h H locs hw hS ls hl
      rw [f_X4_assumed_L27.eq_2] at h
      refine lv_iload hx hb dX4_assumed_27 (lv_at hl 4 rfl) ?_
      refine lv_aload_n hx hb dX4_assumed_29 rfl (lv_at hl 0 rfl) ?_
      refine r_get hx hb hts hown hK hw (v_st hg (by decide)) gs_atc (E_st hg) inX4 rfl 2 (by decide) k_164 rfl rfl dX4_assumed_30 ?_
      refine lv_icmp_ge (tgt := 87) hx hb dX4_assumed_33 (by decide) (fun q1 => ?_) (fun q1 => ?_)
      · replace h := t_pos h q1
        exact L87 x3 x4 h H locs hw hS ls (lv_sub hl [1, 2, 3] rfl)
      · replace h := t_neg h q1
        refine lv_aload_n hx hb dX4_assumed_36 rfl (lv_at hl 0 rfl) ?_
        refine r_get hx hb hts hown hK hw (v_st hg (by decide)) gs_atc (E_st hg) inX4 rfl 0 (by decide) k_160 rfl rfl dX4_assumed_37 ?_
        refine lv_iload hx hb dX4_assumed_40 (lv_at hl 4 rfl) ?_
        obtain ⟨q2, h⟩ := t_gd h
        refine r_aald hx hb hK hw (v_st hg (by decide)) (t0 := 2) rfl (E_ba hg) (v := .ref (ad g (3 + x5.toNatClampNeg))) rfl q2 dX4_assumed_42 ?_
        refine r_get hx hb hts hown hK hw (v_bk hg (vin q2)) gs_atc (E_bk hg (vin q2)) inX0 rfl 1 (by decide) k_75 rfl rfl dX4_assumed_43 ?_
        refine lv_aload_n hx hb dX4_assumed_46 rfl (lv_at hl 1 rfl) ?_
        refine r_get hx hb hts hown hK hw (v_bk hg hi) gs_atc (E_bk hg hi) inX0 rfl 1 (by decide) k_75 rfl rfl dX4_assumed_47 ?_
        refine lv_icmp_ne (tgt := 81) hx hb dX4_assumed_50 (by decide) (fun q3 => ?_) (fun q3 => ?_)
        · replace h := t_neg h q3
          refine lv_iinc (v := (x5 + (nI 1))) (lv' := [(5, .int (x5 + (nI 1))), (0, .ref (ad g 0)), (1, .ref (ad g (3 + i))), (3, .int x3), (4, .int x4)]) hx hb dX4_assumed_81 hl (k := 4) rfl rfl (by decide) rfl (fun ls hl => ?_)
          refine lv_goto (tgt := 27) hx hb dX4_assumed_84 (by decide) ?_
          exact ih x3 x4 (x5 + (nI 1)) h H locs hw hS ls (lv_sub hl [1, 2, 3, 4, 0] rfl)
        · replace h := t_pos h q3
          refine lv_iload_n hx hb dX4_assumed_53 rfl (lv_at hl 2 rfl) ?_
          refine lv_aload_n hx hb dX4_assumed_54 rfl (lv_at hl 0 rfl) ?_
          refine r_get hx hb hts hown hK hw (v_st hg (by decide)) gs_atc (E_st hg) inX4 rfl 0 (by decide) k_160 rfl rfl dX4_assumed_55 ?_
          refine lv_iload hx hb dX4_assumed_58 (lv_at hl 4 rfl) ?_
          obtain ⟨q4, h⟩ := t_gd h
          refine r_aald hx hb hK hw (v_st hg (by decide)) (t0 := 2) rfl (E_ba hg) (v := .ref (ad g (3 + x5.toNatClampNeg))) rfl q4 dX4_assumed_60 ?_
          refine r_get hx hb hts hown hK hw (v_bk hg (vin q4)) gs_atc (E_bk hg (vin q4)) inX0 rfl 5 (by decide) k_89 rfl rfl dX4_assumed_61 ?_
          refine lv_iadd hx hb dX4_assumed_64 ?_
          refine lv_istore_n (lv' := [(3, .int (x3 + (m (3 + x5.toNatClampNeg) 5))), (0, .ref (ad g 0)), (1, .ref (ad g (3 + i))), (4, .int x4), (5, .int x5)]) hx hb dX4_assumed_65 rfl hl (by decide) rfl (fun ls hl => ?_)
          refine lv_iload hx hb dX4_assumed_66 (lv_at hl 3 rfl) ?_
          refine lv_aload_n hx hb dX4_assumed_68 rfl (lv_at hl 1 rfl) ?_
          refine r_get hx hb hts hown hK hw (v_st hg (by decide)) gs_atc (E_st hg) inX4 rfl 0 (by decide) k_160 rfl rfl dX4_assumed_69 ?_
          refine lv_iload hx hb dX4_assumed_72 (lv_at hl 4 rfl) ?_
          obtain ⟨q5, h⟩ := t_gd h
          refine r_aald hx hb hK hw (v_st hg (by decide)) (t0 := 2) rfl (E_ba hg) (v := .ref (ad g (3 + x5.toNatClampNeg))) rfl q5 dX4_assumed_74 ?_
          refine r_get hx hb hts hown hK hw (v_bk hg (vin q5)) gs_atc (E_bk hg (vin q5)) inX0 rfl 6 (by decide) k_92 rfl rfl dX4_assumed_75 ?_
          refine lv_iadd hx hb dX4_assumed_78 ?_
          refine lv_istore (lv' := [(4, .int (x4 + (m (3 + x5.toNatClampNeg) 6))), (3, .int (x3 + (m (3 + x5.toNatClampNeg) 5))), (0, .ref (ad g 0)), (1, .ref (ad g (3 + i))), (5, .int x5)]) hx hb dX4_assumed_79 hl (by decide) rfl (fun ls hl => ?_)
          refine lv_iinc (v := (x5 + (nI 1))) (lv' := [(5, .int (x5 + (nI 1))), (4, .int (x4 + (m (3 + x5.toNatClampNeg) 6))), (3, .int (x3 + (m (3 + x5.toNatClampNeg) 5))), (0, .ref (ad g 0)), (1, .ref (ad g (3 + i)))]) hx hb dX4_assumed_81 hl (k := 4) rfl rfl (by decide) rfl (fun ls hl => ?_)
          refine lv_goto (tgt := 27) hx hb dX4_assumed_84 (by decide) ?_
          exact ih (x3 + (m (3 + x5.toNatClampNeg) 5)) (x4 + (m (3 + x5.toNatClampNeg) 6)) (x5 + (nI 1)) h H locs hw hS ls (lv_sub hl [3, 4, 2, 1, 0] rfl)
  unfold f_X4_assumed at h
  have main : JL p l e ({ frames := 1, cells := 0, slots := 0, locals := 21 } : Room) s md args below meth c D cy ad (MQ below (QI D cy ad r M0) args s 0 0 (AD ad)) (gs M0 g m) 6 [(0, .ref (ad g 0)), (1, .ref (ad g (3 + i))), (2, .int p0)] 0 [] := by
    intro H locs hw hS ls hl
    refine lv_iload_n hx hb dX4_assumed_0 rfl (lv_at hl 2 rfl) ?_
    refine lv_if_ne (tgt := 9) hx hb dX4_assumed_1 (by decide) (fun q1 => ?_) (fun q1 => ?_)
    · replace h := t_neg h q1
      refine lv_iload_n hx hb dX4_assumed_9 rfl (lv_at hl 2 rfl) ?_
      refine lv_iconst (v := nI 1) hx hb dX4_assumed_10 (by decide) ?_
      refine lv_icmp_ne (tgt := 19) hx hb dX4_assumed_11 (by decide) (fun q2 => ?_) (fun q2 => ?_)
      · replace h := t_neg h q2
        refine lv_iconst (v := nI 0) hx hb dX4_assumed_19 (by decide) ?_
        refine lv_istore_n (lv' := [(3, .int (nI 0)), (0, .ref (ad g 0)), (1, .ref (ad g (3 + i))), (2, .int p0)]) hx hb dX4_assumed_20 rfl hl (by decide) rfl (fun ls hl => ?_)
        refine lv_iconst (v := nI 0) hx hb dX4_assumed_21 (by decide) ?_
        refine lv_istore (lv' := [(4, .int (nI 0)), (3, .int (nI 0)), (0, .ref (ad g 0)), (1, .ref (ad g (3 + i))), (2, .int p0)]) hx hb dX4_assumed_22 hl (by decide) rfl (fun ls hl => ?_)
        refine lv_iconst (v := nI 0) hx hb dX4_assumed_24 (by decide) ?_
        refine lv_istore (lv' := [(5, .int (nI 0)), (4, .int (nI 0)), (3, .int (nI 0)), (0, .ref (ad g 0)), (1, .ref (ad g (3 + i))), (2, .int p0)]) hx hb dX4_assumed_25 hl (by decide) rfl (fun ls hl => ?_)
        exact L27 FU (nI 0) (nI 0) (nI 0) h H locs hw hS ls (lv_sub hl [3, 4, 2, 1, 0] rfl)
      · replace h := t_pos h q2
        refine lv_aload_n hx hb dX4_assumed_14 rfl (lv_at hl 1 rfl) ?_
        refine r_get hx hb hts hown hK hw (v_bk hg hi) gs_atc (E_bk hg hi) inX0 rfl 3 (by decide) k_83 rfl rfl dX4_assumed_15 ?_
        have e1 := Option.some.inj h
        exact e_i hx hb hr hlk hw hS e1 (gs_same hm) dX4_assumed_18
    · replace h := t_pos h q1
      refine lv_aload_n hx hb dX4_assumed_4 rfl (lv_at hl 1 rfl) ?_
      refine r_get hx hb hts hown hK hw (v_bk hg hi) gs_atc (E_bk hg hi) inX0 rfl 2 (by decide) k_79 rfl rfl dX4_assumed_5 ?_
      have e1 := Option.some.inj h
      exact e_i hx hb hr hlk hw hS e1 (gs_same hm) dX4_assumed_8
  exact main _ _ hw hS ls hl

theorem cf_X4_answer : cfV RX4 yX4_answer cX4_answer 10 (some .int) 2 := ⟨⟨k_262, k_263, k_3, k_264⟩, by decide +kernel⟩
def f_X4_answer_L110 (m : SM) (i : Nat) (p0 : Int32) (x3 : Int32) (x4 : Int32) (x5 : Int32) (x6 : Int32) : Option (Int32) :=
  (if x3 = (nI 0) then some (-5 : Int32) else (if (m (19 + i) 0) = (nI 2) then some x5 else (if (m (19 + i) 0) = (nI 3) then some x6 else (if (m (19 + i) 0) = (nI 4) then gn x3 (some (((nI 100) * x4) / x3)) else (some x4)))))
def f_X4_answer_L16 (m : SM) (i : Nat) (p0 : Int32) : Nat → Int32 → Int32 → Int32 → Int32 → Int32 → Option (Int32)
  | 0, _, _, _, _, _ => none
  | n + 1, x3, x4, x5, x6, x7 => (if (m 0 2) ≤ x7 then f_X4_answer_L110 m i p0 x3 x4 x5 x6 else gd x7 8 (b1 (f_X5_covers (m (19 + i) 1) (m (3 + x7.toNatClampNeg) 1)) fun r4 => (if r4 = (nI 0) then f_X4_answer_L16 m i p0 n x3 x4 x5 x6 (x7 + (nI 1)) else b1 (f_X4_assumed m x7.toNatClampNeg p0) fun r7 => b1 (f_X0_share m x7.toNatClampNeg (m (19 + i) 0) (m (19 + i) 2) r7) fun r9 => f_X4_answer_L16 m i p0 n (x3 + (m (3 + x7.toNatClampNeg) 4)) (x4 + r9) (mn x5 r9) (mx x6 r9) (x7 + (nI 1)))))
def f_X4_answer (m : SM) (i : Nat) (p0 : Int32) : Option (Int32) :=
  f_X4_answer_L16 m i p0 FU (nI 0) (nI 0) (nI 999) (nI 0) (nI 0)
set_option maxHeartbeats 4000000 in
set_option maxRecDepth 100000 in
theorem c_X4_answer {l : Launch} {D : va_G} {cy : Nat → ClassId} {ad : Nat → Nat → Nat} (hcv : CV ad) {g : Nat} (hg : g < 7) {i : Nat} (hi : i < 6) {M0 : MM} {m : SM} (hm : M0 g = m) {p0 : Int32} {r : Int32} (h : f_X4_answer m i p0 = some r) : Met l yX4_answer (.code yX4_answer cX4_answer 10 (some .int) :: TB) ({ frames := 2, cells := 0, slots := 0, locals := 47 } : Room) (PW D cy ad M0 [.ref (ad g 0), .ref (ad g (19 + i)), .int p0]) (QI D cy ad r M0) 0 0 (AD ad) := by
  refine m_in (by decide +kernel) (Nat.le_of_ble_eq_true rfl) ?_
  intro p e s md args below meth c hC hw hS ls hl
  obtain ⟨hx, hb, hr, hml, hown, hts, hK, hlk⟩ := hC
  have hl : lv_has ls 10 [(0, .ref (ad g 0)), (1, .ref (ad g (19 + i))), (2, .int p0)] := hl
  rw [← gs_same hm] at hw
  have L110 : ∀ (x3 : Int32) (x4 : Int32) (x5 : Int32) (x6 : Int32), f_X4_answer_L110 m i p0 x3 x4 x5 x6 = some r → JL p l e ({ frames := 2, cells := 0, slots := 0, locals := 47 } : Room) s md args below meth c D cy ad (MQ below (QI D cy ad r M0) args s 0 0 (AD ad)) (gs M0 g m) 10 [(1, .ref (ad g (19 + i))), (3, .int x3), (4, .int x4), (5, .int x5), (6, .int x6)] 110 [] := by
    intro x3 x4 x5 x6 h H locs hw hS ls hl
    unfold f_X4_answer_L110 at h
    refine lv_iload_n hx hb dX4_answer_110 rfl (lv_at hl 1 rfl) ?_
    refine lv_if_ne (tgt := 117) hx hb dX4_answer_111 (by decide) (fun q1 => ?_) (fun q1 => ?_)
    · replace h := t_neg h q1
      refine lv_aload_n hx hb dX4_answer_117 rfl (lv_at hl 0 rfl) ?_
      refine r_get hx hb hts hown hK hw (v_qu hg hi) gs_atc (E_qu hg) inX3 rfl 0 (by decide) k_121 rfl rfl dX4_answer_118 ?_
      by_cases q2 : (m (19 + i) 0) = (nI 2)
      · replace h := t_pos h q2
        refine lv_tableIn (off := 27) (tgt := 148) hx hb dX4_answer_121 (by rw [q2]; decide) (by rw [q2]; decide) (by rw [q2]; rfl) (by decide) ?_
        refine lv_iload hx hb dX4_answer_148 (lv_at hl 3 rfl) ?_
        have e1 := Option.some.inj h
        exact e_i hx hb hr hlk hw hS e1 (gs_same hm) dX4_answer_150
      · replace h := t_neg h q2
        by_cases q3 : (m (19 + i) 0) = (nI 3)
        · replace h := t_pos h q3
          refine lv_tableIn (off := 30) (tgt := 151) hx hb dX4_answer_121 (by rw [q3]; decide) (by rw [q3]; decide) (by rw [q3]; rfl) (by decide) ?_
          refine lv_iload hx hb dX4_answer_151 (lv_at hl 4 rfl) ?_
          have e1 := Option.some.inj h
          exact e_i hx hb hr hlk hw hS e1 (gs_same hm) dX4_answer_153
        · replace h := t_neg h q3
          by_cases q4 : (m (19 + i) 0) = (nI 4)
          · replace h := t_pos h q4
            refine lv_tableIn (off := 33) (tgt := 154) hx hb dX4_answer_121 (by rw [q4]; decide) (by rw [q4]; decide) (by rw [q4]; rfl) (by decide) ?_
            refine lv_bipush (v := nI 100) hx hb dX4_answer_154 (by decide) ?_
            refine lv_iload hx hb dX4_answer_156 (lv_at hl 2 rfl) ?_
            refine lv_imul hx hb dX4_answer_158 ?_
            refine lv_iload_n hx hb dX4_answer_159 rfl (lv_at hl 1 rfl) ?_
            obtain ⟨q5, h⟩ := t_gn h
            refine lv_idiv hx hb dX4_answer_160 q5 ?_
            have e1 := Option.some.inj h
            exact e_i hx hb hr hlk hw hS e1 (gs_same hm) dX4_answer_161
          · replace h := t_neg h q4
            refine lv_tableOut (tgt := 162) hx hb dX4_answer_121 (tab_out (lo := 2) (n := 3) (by decide) (lt_s (lt_s (lt_s lt_0 q2) q3) q4)) (by decide) ?_
            refine lv_iload hx hb dX4_answer_162 (lv_at hl 2 rfl) ?_
            have e1 := Option.some.inj h
            exact e_i hx hb hr hlk hw hS e1 (gs_same hm) dX4_answer_164
    · replace h := t_pos h q1
      refine lv_bipush (v := -5) hx hb dX4_answer_114 (by decide) ?_
      have e1 := Option.some.inj h
      exact e_i hx hb hr hlk hw hS e1 (gs_same hm) dX4_answer_116
  have L16 : ∀ (n : Nat), ∀ (x3 : Int32) (x4 : Int32) (x5 : Int32) (x6 : Int32) (x7 : Int32), f_X4_answer_L16 m i p0 n x3 x4 x5 x6 x7 = some r → JL p l e ({ frames := 2, cells := 0, slots := 0, locals := 47 } : Room) s md args below meth c D cy ad (MQ below (QI D cy ad r M0) args s 0 0 (AD ad)) (gs M0 g m) 10 [(0, .ref (ad g 0)), (1, .ref (ad g (19 + i))), (2, .int p0), (3, .int x3), (4, .int x4), (5, .int x5), (6, .int x6), (7, .int x7)] 16 [] := by
    intro n
    induction n with
    | zero =>
      intro x3 x4 x5 x6 x7 h
      cases h
    | succ n ih =>
      intro x3 x4 x5 x6 x7 h H locs hw hS ls hl
      rw [f_X4_answer_L16.eq_2] at h
      refine lv_iload hx hb dX4_answer_16 (lv_at hl 7 rfl) ?_
      refine lv_aload_n hx hb dX4_answer_18 rfl (lv_at hl 0 rfl) ?_
      refine r_get hx hb hts hown hK hw (v_st hg (by decide)) gs_atc (E_st hg) inX4 rfl 2 (by decide) k_164 rfl rfl dX4_answer_19 ?_
      refine lv_icmp_ge (tgt := 110) hx hb dX4_answer_22 (by decide) (fun q1 => ?_) (fun q1 => ?_)
      · replace h := t_pos h q1
        exact L110 x3 x4 x5 x6 h H locs hw hS ls (lv_sub hl [1, 3, 4, 5, 6] rfl)
      · replace h := t_neg h q1
        refine lv_aload_n hx hb dX4_answer_25 rfl (lv_at hl 0 rfl) ?_
        refine r_get hx hb hts hown hK hw (v_st hg (by decide)) gs_atc (E_st hg) inX4 rfl 0 (by decide) k_160 rfl rfl dX4_answer_26 ?_
        refine lv_iload hx hb dX4_answer_29 (lv_at hl 7 rfl) ?_
        obtain ⟨q2, h⟩ := t_gd h
        refine r_aald hx hb hK hw (v_st hg (by decide)) (t0 := 2) rfl (E_ba hg) (v := .ref (ad g (3 + x7.toNatClampNeg))) rfl q2 dX4_answer_31 ?_
        refine lv_astore (lv' := [(8, .ref (ad g (3 + x7.toNatClampNeg))), (0, .ref (ad g 0)), (1, .ref (ad g (19 + i))), (2, .int p0), (3, .int x3), (4, .int x4), (5, .int x5), (6, .int x6), (7, .int x7)]) hx hb dX4_answer_32 hl (by decide) rfl (fun ls hl => ?_)
        refine lv_aload_n hx hb dX4_answer_34 rfl (lv_at hl 2 rfl) ?_
        refine r_get hx hb hts hown hK hw (v_qu hg hi) gs_atc (E_qu hg) inX3 rfl 1 (by decide) k_124 rfl rfl dX4_answer_35 ?_
        refine lv_aload hx hb dX4_answer_38 (lv_at hl 0 rfl) ?_
        refine r_get hx hb hts hown hK hw (v_bk hg (vin q2)) gs_atc (E_bk hg (vin q2)) inX0 rfl 1 (by decide) k_75 rfl rfl dX4_answer_40 ?_
        obtain ⟨r4, y3, h⟩ := t_b1 h
        refine c_sn hx hb hml hown hts hK hw hS (fun _ h => h) (As := [.int (m (19 + i) 1), .int (m (3 + x7.toNatClampNeg) 1)]) (rest := []) (c_X5_covers hcv (M0 := gs M0 g m) y3) cf_X5_covers k_258n rfl rfl ⟨Nat.le_of_ble_eq_true rfl, Nat.le_of_ble_eq_true rfl⟩ rfl hl.1 rfl (Nat.le_of_ble_eq_true rfl) ⟨Nat.le_refl _, Nat.le_refl _⟩ dX4_answer_43 (fun H locs hw hS => ?_)
        refine lv_if_eq (tgt := 104) hx hb dX4_answer_46 (by decide) (fun q5 => ?_) (fun q5 => ?_)
        · replace h := t_pos h q5
          refine lv_iinc (v := (x7 + (nI 1))) (lv' := [(7, .int (x7 + (nI 1))), (8, .ref (ad g (3 + x7.toNatClampNeg))), (0, .ref (ad g 0)), (1, .ref (ad g (19 + i))), (2, .int p0), (3, .int x3), (4, .int x4), (5, .int x5), (6, .int x6)]) hx hb dX4_answer_104 hl (k := 8) rfl rfl (by decide) rfl (fun ls hl => ?_)
          refine lv_goto (tgt := 16) hx hb dX4_answer_107 (by decide) ?_
          exact ih x3 x4 x5 x6 (x7 + (nI 1)) h H locs hw hS ls (lv_sub hl [2, 3, 4, 5, 6, 7, 8, 0] rfl)
        · replace h := t_neg h q5
          refine lv_aload hx hb dX4_answer_49 (lv_at hl 0 rfl) ?_
          refine lv_aload_n hx hb dX4_answer_51 rfl (lv_at hl 2 rfl) ?_
          refine r_get hx hb hts hown hK hw (v_qu hg hi) gs_atc (E_qu hg) inX3 rfl 0 (by decide) k_121 rfl rfl dX4_answer_52 ?_
          refine lv_aload_n hx hb dX4_answer_55 rfl (lv_at hl 2 rfl) ?_
          refine r_get hx hb hts hown hK hw (v_qu hg hi) gs_atc (E_qu hg) inX3 rfl 2 (by decide) k_127 rfl rfl dX4_answer_56 ?_
          refine lv_aload_n hx hb dX4_answer_59 rfl (lv_at hl 1 rfl) ?_
          refine lv_aload hx hb dX4_answer_60 (lv_at hl 0 rfl) ?_
          refine lv_iload_n hx hb dX4_answer_62 rfl (lv_at hl 3 rfl) ?_
          obtain ⟨r7, y6, h⟩ := t_b1 h
          refine c_vi hx hb hml hown hts hK hw hS (fun _ h => h) (As := [.ref (ad g (3 + x7.toNatClampNeg)), .int p0]) (rest := [.int (m (19 + i) 2), .int (m (19 + i) 0), .ref (ad g (3 + x7.toNatClampNeg))]) (c_X4_assumed hcv (g := g) (hg := hg) (i := x7.toNatClampNeg) (hi := (vin q2)) (M0 := gs M0 g m) (m := m) (hm := gs_at) y6) cf_X4_assumed k_265 rfl rfl ⟨Nat.le_of_ble_eq_true rfl, Nat.le_of_ble_eq_true rfl⟩ (r_recv hK hw (v_st hg (by decide)) (E_st hg) rfl) rfl hl.1 rfl (Nat.le_of_ble_eq_true rfl) ⟨Nat.le_refl _, Nat.le_refl _⟩ dX4_answer_63 (fun H locs hw hS => ?_)
          obtain ⟨r9, y8, h⟩ := t_b1 h
          refine c_vi hx hb hml hown hts hK hw hS (fun _ h => h) (As := [.int (m (19 + i) 0), .int (m (19 + i) 2), .int r7]) (rest := []) (c_X0_share hcv (g := g) (hg := hg) (i := x7.toNatClampNeg) (hi := (vin q2)) (M0 := gs M0 g m) (m := m) (hm := gs_at) y8) cf_X0_share k_275 rfl rfl ⟨Nat.le_of_ble_eq_true rfl, Nat.le_of_ble_eq_true rfl⟩ (r_recv hK hw (v_bk hg (vin q2)) (E_bk hg (vin q2)) rfl) rfl hl.1 rfl (Nat.le_of_ble_eq_true rfl) ⟨Nat.le_refl _, Nat.le_refl _⟩ dX4_answer_66 (fun H locs hw hS => ?_)
          refine lv_istore (lv' := [(9, .int r9), (8, .ref (ad g (3 + x7.toNatClampNeg))), (0, .ref (ad g 0)), (1, .ref (ad g (19 + i))), (2, .int p0), (3, .int x3), (4, .int x4), (5, .int x5), (6, .int x6), (7, .int x7)]) hx hb dX4_answer_69 hl (by decide) rfl (fun ls hl => ?_)
          refine lv_iload_n hx hb dX4_answer_71 rfl (lv_at hl 5 rfl) ?_
          refine lv_aload hx hb dX4_answer_72 (lv_at hl 1 rfl) ?_
          refine r_get hx hb hts hown hK hw (v_bk hg (vin q2)) gs_atc (E_bk hg (vin q2)) inX0 rfl 4 (by decide) k_86 rfl rfl dX4_answer_74 ?_
          refine lv_iadd hx hb dX4_answer_77 ?_
          refine lv_istore_n (lv' := [(3, .int (x3 + (m (3 + x7.toNatClampNeg) 4))), (9, .int r9), (8, .ref (ad g (3 + x7.toNatClampNeg))), (0, .ref (ad g 0)), (1, .ref (ad g (19 + i))), (2, .int p0), (4, .int x4), (5, .int x5), (6, .int x6), (7, .int x7)]) hx hb dX4_answer_78 rfl hl (by decide) rfl (fun ls hl => ?_)
          refine lv_iload hx hb dX4_answer_79 (lv_at hl 6 rfl) ?_
          refine lv_iload hx hb dX4_answer_81 (lv_at hl 1 rfl) ?_
          refine lv_iadd hx hb dX4_answer_83 ?_
          refine lv_istore (lv' := [(4, .int (x4 + r9)), (3, .int (x3 + (m (3 + x7.toNatClampNeg) 4))), (9, .int r9), (8, .ref (ad g (3 + x7.toNatClampNeg))), (0, .ref (ad g 0)), (1, .ref (ad g (19 + i))), (2, .int p0), (5, .int x5), (6, .int x6), (7, .int x7)]) hx hb dX4_answer_84 hl (by decide) rfl (fun ls hl => ?_)
          refine lv_iload hx hb dX4_answer_86 (lv_at hl 7 rfl) ?_
          refine lv_iload hx hb dX4_answer_88 (lv_at hl 2 rfl) ?_
          refine r_min hx hb hts (hml.trans hl.1.symm) hown k_269 k_270 k_8 k_271 (Nat.le_of_ble_eq_true rfl) (Nat.le_of_ble_eq_true rfl) (Nat.le_of_ble_eq_true rfl) (Nat.le_of_ble_eq_true rfl) dX4_answer_90 ?_
          refine lv_istore (lv' := [(5, .int (mn x5 r9)), (4, .int (x4 + r9)), (3, .int (x3 + (m (3 + x7.toNatClampNeg) 4))), (9, .int r9), (8, .ref (ad g (3 + x7.toNatClampNeg))), (0, .ref (ad g 0)), (1, .ref (ad g (19 + i))), (2, .int p0), (6, .int x6), (7, .int x7)]) hx hb dX4_answer_93 hl (by decide) rfl (fun ls hl => ?_)
          refine lv_iload hx hb dX4_answer_95 (lv_at hl 8 rfl) ?_
          refine lv_iload hx hb dX4_answer_97 (lv_at hl 3 rfl) ?_
          refine r_max hx hb hts (hml.trans hl.1.symm) hown k_272 k_273 k_8 k_274 (Nat.le_of_ble_eq_true rfl) (Nat.le_of_ble_eq_true rfl) (Nat.le_of_ble_eq_true rfl) (Nat.le_of_ble_eq_true rfl) dX4_answer_99 ?_
          refine lv_istore (lv' := [(6, .int (mx x6 r9)), (5, .int (mn x5 r9)), (4, .int (x4 + r9)), (3, .int (x3 + (m (3 + x7.toNatClampNeg) 4))), (9, .int r9), (8, .ref (ad g (3 + x7.toNatClampNeg))), (0, .ref (ad g 0)), (1, .ref (ad g (19 + i))), (2, .int p0), (7, .int x7)]) hx hb dX4_answer_102 hl (by decide) rfl (fun ls hl => ?_)
          refine lv_iinc (v := (x7 + (nI 1))) (lv' := [(7, .int (x7 + (nI 1))), (6, .int (mx x6 r9)), (5, .int (mn x5 r9)), (4, .int (x4 + r9)), (3, .int (x3 + (m (3 + x7.toNatClampNeg) 4))), (9, .int r9), (8, .ref (ad g (3 + x7.toNatClampNeg))), (0, .ref (ad g 0)), (1, .ref (ad g (19 + i))), (2, .int p0)]) hx hb dX4_answer_104 hl (k := 9) rfl rfl (by decide) rfl (fun ls hl => ?_)
          refine lv_goto (tgt := 16) hx hb dX4_answer_107 (by decide) ?_
          exact ih (x3 + (m (3 + x7.toNatClampNeg) 4)) (x4 + r9) (mn x5 r9) (mx x6 r9) (x7 + (nI 1)) h H locs hw hS ls (lv_sub hl [7, 8, 9, 4, 3, 2, 1, 0] rfl)
  unfold f_X4_answer at h
  have main : JL p l e ({ frames := 2, cells := 0, slots := 0, locals := 47 } : Room) s md args below meth c D cy ad (MQ below (QI D cy ad r M0) args s 0 0 (AD ad)) (gs M0 g m) 10 [(0, .ref (ad g 0)), (1, .ref (ad g (19 + i))), (2, .int p0)] 0 [] := by
    intro H locs hw hS ls hl
    refine lv_iconst (v := nI 0) hx hb dX4_answer_0 (by decide) ?_
    refine lv_istore_n (lv' := [(3, .int (nI 0)), (0, .ref (ad g 0)), (1, .ref (ad g (19 + i))), (2, .int p0)]) hx hb dX4_answer_1 rfl hl (by decide) rfl (fun ls hl => ?_)
    refine lv_iconst (v := nI 0) hx hb dX4_answer_2 (by decide) ?_
    refine lv_istore (lv' := [(4, .int (nI 0)), (3, .int (nI 0)), (0, .ref (ad g 0)), (1, .ref (ad g (19 + i))), (2, .int p0)]) hx hb dX4_answer_3 hl (by decide) rfl (fun ls hl => ?_)
    refine lv_sipush (v := nI 999) hx hb dX4_answer_5 (by decide) ?_
    refine lv_istore (lv' := [(5, .int (nI 999)), (4, .int (nI 0)), (3, .int (nI 0)), (0, .ref (ad g 0)), (1, .ref (ad g (19 + i))), (2, .int p0)]) hx hb dX4_answer_8 hl (by decide) rfl (fun ls hl => ?_)
    refine lv_iconst (v := nI 0) hx hb dX4_answer_10 (by decide) ?_
    refine lv_istore (lv' := [(6, .int (nI 0)), (5, .int (nI 999)), (4, .int (nI 0)), (3, .int (nI 0)), (0, .ref (ad g 0)), (1, .ref (ad g (19 + i))), (2, .int p0)]) hx hb dX4_answer_11 hl (by decide) rfl (fun ls hl => ?_)
    refine lv_iconst (v := nI 0) hx hb dX4_answer_13 (by decide) ?_
    refine lv_istore (lv' := [(7, .int (nI 0)), (6, .int (nI 0)), (5, .int (nI 999)), (4, .int (nI 0)), (3, .int (nI 0)), (0, .ref (ad g 0)), (1, .ref (ad g (19 + i))), (2, .int p0)]) hx hb dX4_answer_14 hl (by decide) rfl (fun ls hl => ?_)
    exact L16 FU (nI 0) (nI 0) (nI 999) (nI 0) (nI 0) h H locs hw hS ls (lv_sub hl [5, 6, 7, 4, 3, 2, 1, 0] rfl)
  exact main _ _ hw hS ls hl

theorem cf_X4_settle : cfV RX4 yX4_settle cX4_settle 3 none 0 := ⟨⟨k_251, k_252, k_3, k_253⟩, by decide +kernel⟩
def f_X4_settle_L2 : Nat → SM → Int32 → Option (Int32 × SM)
  | 0, _, _ => none
  | n + 1, m, x1 => (if (m 0 3) ≤ x1 then some (0, m) else gd x1 6 ((if (m (19 + x1.toNatClampNeg) 4) = (nI 0) then b1 (f_X4_rows m (m (19 + x1.toNatClampNeg) 1)) fun r5 => (if r5 = (nI 0) then f_X4_settle_L2 n m (x1 + (nI 1)) else b1 (f_X4_answer m x1.toNatClampNeg (nI 0)) fun r8 => lt1 (up m (19 + x1.toNatClampNeg) 5 r8) fun m10 => b1 (f_X4_answer m10 x1.toNatClampNeg (nI 1)) fun r12 => lt1 (up m10 (19 + x1.toNatClampNeg) 6 r12) fun m14 => (if (m14 (19 + x1.toNatClampNeg) 3) < ((m14 (19 + x1.toNatClampNeg) 6) - (m14 (19 + x1.toNatClampNeg) 5)) then f_X4_settle_L2 n m14 (x1 + (nI 1)) else b1 (f_X4_answer m14 x1.toNatClampNeg (nI 2)) fun r17 => bd (f_X3_finish m14 x1.toNatClampNeg r17) fun r19 m20 => f_X4_settle_L2 n m20 (x1 + (nI 1)))) else f_X4_settle_L2 n m (x1 + (nI 1)))))
def f_X4_settle (m : SM) : Option (Int32 × SM) :=
  f_X4_settle_L2 FU m (nI 0)
set_option maxHeartbeats 4000000 in
set_option maxRecDepth 100000 in
theorem c_X4_settle {l : Launch} {D : va_G} {cy : Nat → ClassId} {ad : Nat → Nat → Nat} (hcv : CV ad) {g : Nat} (hg : g < 7) {M0 : MM} {m : SM} (hm : M0 g = m) {r : Int32} {x : SM} (h : f_X4_settle m = some (r, x)) : Met l yX4_settle (.code yX4_settle cX4_settle 3 none :: TB) ({ frames := 3, cells := 0, slots := 0, locals := 76 } : Room) (PW D cy ad M0 [.ref (ad g 0)]) (QV D cy ad (gs M0 g x)) 0 0 (AD ad) := by
  refine m_in (by decide +kernel) (Nat.le_of_ble_eq_true rfl) ?_
  intro p e s md args below meth c hC hw hS ls hl
  obtain ⟨hx, hb, hr, hml, hown, hts, hK, hlk⟩ := hC
  have hl : lv_has ls 3 [(0, .ref (ad g 0))] := hl
  rw [← gs_same hm] at hw
  have L2 : ∀ (n : Nat), ∀ (m : SM) (x1 : Int32), f_X4_settle_L2 n m x1 = some (r, x) → JL p l e ({ frames := 3, cells := 0, slots := 0, locals := 76 } : Room) s md args below meth c D cy ad (MQ below (QV D cy ad (gs M0 g x)) args s 0 0 (AD ad)) (gs M0 g m) 3 [(0, .ref (ad g 0)), (1, .int x1)] 2 [] := by
    intro n
    induction n with
    | zero =>
      intro m x1 h
      cases h
    | succ n ih =>
      intro m x1 h H locs hw hS ls hl
      rw [f_X4_settle_L2.eq_2] at h
      refine lv_iload_n hx hb dX4_settle_2 rfl (lv_at hl 1 rfl) ?_
      refine lv_aload_n hx hb dX4_settle_3 rfl (lv_at hl 0 rfl) ?_
      refine r_get hx hb hts hown hK hw (v_st hg (by decide)) gs_atc (E_st hg) inX4 rfl 3 (by decide) k_166 rfl rfl dX4_settle_4 ?_
      refine lv_icmp_ge (tgt := 90) hx hb dX4_settle_7 (by decide) (fun q1 => ?_) (fun q1 => ?_)
      · replace h := t_pos h q1
        have e1 := (t_ret h).1
        have e2 := (t_ret h).2
        exact e_v hx hb hr hlk hw hS (by rw [e2]) dX4_settle_90
      · replace h := t_neg h q1
        refine lv_aload_n hx hb dX4_settle_10 rfl (lv_at hl 0 rfl) ?_
        refine r_get hx hb hts hown hK hw (v_st hg (by decide)) gs_atc (E_st hg) inX4 rfl 1 (by decide) k_162 rfl rfl dX4_settle_11 ?_
        refine lv_iload_n hx hb dX4_settle_14 rfl (lv_at hl 1 rfl) ?_
        obtain ⟨q2, h⟩ := t_gd h
        refine r_aald hx hb hK hw (v_st hg (by decide)) (t0 := 3) rfl (E_qa hg) (v := .ref (ad g (19 + x1.toNatClampNeg))) rfl q2 dX4_settle_15 ?_
        refine lv_astore_n (lv' := [(2, .ref (ad g (19 + x1.toNatClampNeg))), (0, .ref (ad g 0)), (1, .int x1)]) hx hb dX4_settle_16 rfl hl (by decide) rfl (fun ls hl => ?_)
        refine lv_aload_n hx hb dX4_settle_17 rfl (lv_at hl 0 rfl) ?_
        refine r_get hx hb hts hown hK hw (v_qu hg (vin q2)) gs_atc (E_qu hg) inX3 rfl 4 (by decide) k_133 rfl rfl dX4_settle_18 ?_
        refine lv_if_ne (tgt := 84) hx hb dX4_settle_21 (by decide) (fun q3 => ?_) (fun q3 => ?_)
        · replace h := t_neg h q3
          refine lv_iinc (v := (x1 + (nI 1))) (lv' := [(1, .int (x1 + (nI 1))), (2, .ref (ad g (19 + x1.toNatClampNeg))), (0, .ref (ad g 0))]) hx hb dX4_settle_84 hl (k := 2) rfl rfl (by decide) rfl (fun ls hl => ?_)
          refine lv_goto (tgt := 2) hx hb dX4_settle_87 (by decide) ?_
          exact ih m (x1 + (nI 1)) h H locs hw hS ls (lv_sub hl [2, 0] rfl)
        · replace h := t_pos h q3
          refine lv_aload_n hx hb dX4_settle_24 rfl (lv_at hl 1 rfl) ?_
          refine lv_aload_n hx hb dX4_settle_25 rfl (lv_at hl 0 rfl) ?_
          refine r_get hx hb hts hown hK hw (v_qu hg (vin q2)) gs_atc (E_qu hg) inX3 rfl 1 (by decide) k_124 rfl rfl dX4_settle_26 ?_
          obtain ⟨r5, y4, h⟩ := t_b1 h
          refine c_vi hx hb hml hown hts hK hw hS (fun _ h => h) (As := [.int (m (19 + x1.toNatClampNeg) 1)]) (rest := []) (c_X4_rows hcv (g := g) (hg := hg) (M0 := gs M0 g m) (m := m) (hm := gs_at) y4) cf_X4_rows k_254 rfl rfl ⟨Nat.le_of_ble_eq_true rfl, Nat.le_of_ble_eq_true rfl⟩ (r_recv hK hw (v_st hg (by decide)) (E_st hg) rfl) rfl hl.1 rfl (Nat.le_of_ble_eq_true rfl) ⟨Nat.le_refl _, Nat.le_refl _⟩ dX4_settle_29 (fun H locs hw hS => ?_)
          refine lv_if_ne (tgt := 38) hx hb dX4_settle_32 (by decide) (fun q6 => ?_) (fun q6 => ?_)
          · replace h := t_neg h q6
            refine lv_aload_n hx hb dX4_settle_38 rfl (lv_at hl 0 rfl) ?_
            refine lv_aload_n hx hb dX4_settle_39 rfl (lv_at hl 1 rfl) ?_
            refine lv_aload_n hx hb dX4_settle_40 rfl (lv_at hl 0 rfl) ?_
            refine lv_iconst (v := nI 0) hx hb dX4_settle_41 (by decide) ?_
            obtain ⟨r8, y7, h⟩ := t_b1 h
            refine c_vi hx hb hml hown hts hK hw hS (fun _ h => h) (As := [.ref (ad g (19 + x1.toNatClampNeg)), .int (nI 0)]) (rest := [.ref (ad g (19 + x1.toNatClampNeg))]) (c_X4_answer hcv (g := g) (hg := hg) (i := x1.toNatClampNeg) (hi := (vin q2)) (M0 := gs M0 g m) (m := m) (hm := gs_at) y7) cf_X4_answer k_261 rfl rfl ⟨Nat.le_of_ble_eq_true rfl, Nat.le_of_ble_eq_true rfl⟩ (r_recv hK hw (v_st hg (by decide)) (E_st hg) rfl) rfl hl.1 rfl (Nat.le_of_ble_eq_true rfl) ⟨Nat.le_refl _, Nat.le_refl _⟩ dX4_settle_42 (fun H locs hw hS => ?_)
            obtain ⟨m10, e9, h⟩ := t_lt h
            refine r_put hx hb hts hown hK hcv hw hS (v_qu hg (vin q2)) gs_atc (E_qu hg) inX3 rfl tyX3 tyX3_ok nmX3 5 (by decide) k_136 rfl rfl rfl rfl (Nat.le_of_ble_eq_true rfl) (E_qu hg) (gs_up e9) dX4_settle_45 (fun H locs hw hS => ?_)
            refine lv_aload_n hx hb dX4_settle_48 rfl (lv_at hl 0 rfl) ?_
            refine lv_aload_n hx hb dX4_settle_49 rfl (lv_at hl 1 rfl) ?_
            refine lv_aload_n hx hb dX4_settle_50 rfl (lv_at hl 0 rfl) ?_
            refine lv_iconst (v := nI 1) hx hb dX4_settle_51 (by decide) ?_
            obtain ⟨r12, y11, h⟩ := t_b1 h
            refine c_vi hx hb hml hown hts hK hw hS (fun _ h => h) (As := [.ref (ad g (19 + x1.toNatClampNeg)), .int (nI 1)]) (rest := [.ref (ad g (19 + x1.toNatClampNeg))]) (c_X4_answer hcv (g := g) (hg := hg) (i := x1.toNatClampNeg) (hi := (vin q2)) (M0 := gs M0 g m10) (m := m10) (hm := gs_at) y11) cf_X4_answer k_261 rfl rfl ⟨Nat.le_of_ble_eq_true rfl, Nat.le_of_ble_eq_true rfl⟩ (r_recv hK hw (v_st hg (by decide)) (E_st hg) rfl) rfl hl.1 rfl (Nat.le_of_ble_eq_true rfl) ⟨Nat.le_refl _, Nat.le_refl _⟩ dX4_settle_52 (fun H locs hw hS => ?_)
            obtain ⟨m14, e13, h⟩ := t_lt h
            refine r_put hx hb hts hown hK hcv hw hS (v_qu hg (vin q2)) gs_atc (E_qu hg) inX3 rfl tyX3 tyX3_ok nmX3 6 (by decide) k_139 rfl rfl rfl rfl (Nat.le_of_ble_eq_true rfl) (E_qu hg) (gs_up e13) dX4_settle_55 (fun H locs hw hS => ?_)
            refine lv_aload_n hx hb dX4_settle_58 rfl (lv_at hl 0 rfl) ?_
            refine r_get hx hb hts hown hK hw (v_qu hg (vin q2)) gs_atc (E_qu hg) inX3 rfl 6 (by decide) k_139 rfl rfl dX4_settle_59 ?_
            refine lv_aload_n hx hb dX4_settle_62 rfl (lv_at hl 0 rfl) ?_
            refine r_get hx hb hts hown hK hw (v_qu hg (vin q2)) gs_atc (E_qu hg) inX3 rfl 5 (by decide) k_136 rfl rfl dX4_settle_63 ?_
            refine lv_isub hx hb dX4_settle_66 ?_
            refine lv_aload_n hx hb dX4_settle_67 rfl (lv_at hl 0 rfl) ?_
            refine r_get hx hb hts hown hK hw (v_qu hg (vin q2)) gs_atc (E_qu hg) inX3 rfl 3 (by decide) k_130 rfl rfl dX4_settle_68 ?_
            refine lv_icmp_gt (tgt := 84) hx hb dX4_settle_71 (by decide) (fun q15 => ?_) (fun q15 => ?_)
            · replace h := t_pos h q15
              refine lv_iinc (v := (x1 + (nI 1))) (lv' := [(1, .int (x1 + (nI 1))), (2, .ref (ad g (19 + x1.toNatClampNeg))), (0, .ref (ad g 0))]) hx hb dX4_settle_84 hl (k := 2) rfl rfl (by decide) rfl (fun ls hl => ?_)
              refine lv_goto (tgt := 2) hx hb dX4_settle_87 (by decide) ?_
              exact ih m14 (x1 + (nI 1)) h H locs hw hS ls (lv_sub hl [2, 0] rfl)
            · replace h := t_neg h q15
              refine lv_aload_n hx hb dX4_settle_74 rfl (lv_at hl 0 rfl) ?_
              refine lv_aload_n hx hb dX4_settle_75 rfl (lv_at hl 1 rfl) ?_
              refine lv_aload_n hx hb dX4_settle_76 rfl (lv_at hl 0 rfl) ?_
              refine lv_iconst (v := nI 2) hx hb dX4_settle_77 (by decide) ?_
              obtain ⟨r17, y16, h⟩ := t_b1 h
              refine c_vi hx hb hml hown hts hK hw hS (fun _ h => h) (As := [.ref (ad g (19 + x1.toNatClampNeg)), .int (nI 2)]) (rest := [.ref (ad g (19 + x1.toNatClampNeg))]) (c_X4_answer hcv (g := g) (hg := hg) (i := x1.toNatClampNeg) (hi := (vin q2)) (M0 := gs M0 g m14) (m := m14) (hm := gs_at) y16) cf_X4_answer k_261 rfl rfl ⟨Nat.le_of_ble_eq_true rfl, Nat.le_of_ble_eq_true rfl⟩ (r_recv hK hw (v_st hg (by decide)) (E_st hg) rfl) rfl hl.1 rfl (Nat.le_of_ble_eq_true rfl) ⟨Nat.le_refl _, Nat.le_refl _⟩ dX4_settle_78 (fun H locs hw hS => ?_)
              obtain ⟨r19, m20, y18, h⟩ := t_bd h
              refine c_vv hx hb hml hown hts hK hw hS (fun _ h => h) (As := [.int r17]) (rest := []) (c_X3_finish hcv (g := g) (hg := hg) (i := x1.toNatClampNeg) (hi := (vin q2)) (M0 := gs M0 g m14) (m := m14) (hm := gs_at) y18) cf_X3_finish k_289 rfl rfl ⟨Nat.le_of_ble_eq_true rfl, Nat.le_of_ble_eq_true rfl⟩ (r_recv hK hw (v_qu hg (vin q2)) (E_qu hg) rfl) rfl hl.1 rfl (Nat.le_of_ble_eq_true rfl) ⟨Nat.le_refl _, Nat.le_refl _⟩ dX4_settle_81 (fun H locs hw hS => ?_)
              rw [gs_gs] at hw
              refine lv_iinc (v := (x1 + (nI 1))) (lv' := [(1, .int (x1 + (nI 1))), (2, .ref (ad g (19 + x1.toNatClampNeg))), (0, .ref (ad g 0))]) hx hb dX4_settle_84 hl (k := 2) rfl rfl (by decide) rfl (fun ls hl => ?_)
              refine lv_goto (tgt := 2) hx hb dX4_settle_87 (by decide) ?_
              exact ih m20 (x1 + (nI 1)) h H locs hw hS ls (lv_sub hl [2, 0] rfl)
          · replace h := t_pos h q6
            refine lv_goto (tgt := 84) hx hb dX4_settle_35 (by decide) ?_
            refine lv_iinc (v := (x1 + (nI 1))) (lv' := [(1, .int (x1 + (nI 1))), (2, .ref (ad g (19 + x1.toNatClampNeg))), (0, .ref (ad g 0))]) hx hb dX4_settle_84 hl (k := 2) rfl rfl (by decide) rfl (fun ls hl => ?_)
            refine lv_goto (tgt := 2) hx hb dX4_settle_87 (by decide) ?_
            exact ih m (x1 + (nI 1)) h H locs hw hS ls (lv_sub hl [2, 0] rfl)
  unfold f_X4_settle at h
  have main : JL p l e ({ frames := 3, cells := 0, slots := 0, locals := 76 } : Room) s md args below meth c D cy ad (MQ below (QV D cy ad (gs M0 g x)) args s 0 0 (AD ad)) (gs M0 g m) 3 [(0, .ref (ad g 0))] 0 [] := by
    intro H locs hw hS ls hl
    refine lv_iconst (v := nI 0) hx hb dX4_settle_0 (by decide) ?_
    refine lv_istore_n (lv' := [(1, .int (nI 0)), (0, .ref (ad g 0))]) hx hb dX4_settle_1 rfl hl (by decide) rfl (fun ls hl => ?_)
    exact L2 FU m (nI 0) h H locs hw hS ls (lv_sub hl [1, 0] rfl)
  exact main _ _ hw hS ls hl

theorem cf_X4_weight : cfV RX4 yX4_weight cX4_weight 5 (some .int) 1 := ⟨⟨k_311, k_312, k_3, k_313⟩, by decide +kernel⟩
def f_X4_weight_L4 (m : SM) (i : Nat) : Nat → Int32 → Int32 → Option (Int32)
  | 0, _, _ => none
  | n + 1, x2, x3 => (if (m 0 3) ≤ x3 then some x2 else gd x3 6 ((if (m (19 + x3.toNatClampNeg) 4) = (nI 0) then b1 (f_X5_covers (m (19 + x3.toNatClampNeg) 1) (m (3 + i) 1)) fun r5 => (if r5 = (nI 0) then f_X4_weight_L4 m i n x2 (x3 + (nI 1)) else b1 (f_X3_urgency m x3.toNatClampNeg i) fun r8 => f_X4_weight_L4 m i n (x2 + r8) (x3 + (nI 1))) else f_X4_weight_L4 m i n x2 (x3 + (nI 1)))))
def f_X4_weight (m : SM) (i : Nat) : Option (Int32) :=
  f_X4_weight_L4 m i FU (nI 0) (nI 0)
set_option maxHeartbeats 4000000 in
set_option maxRecDepth 100000 in
theorem c_X4_weight {l : Launch} {D : va_G} {cy : Nat → ClassId} {ad : Nat → Nat → Nat} (hcv : CV ad) {g : Nat} (hg : g < 7) {i : Nat} (hi : i < 8) {M0 : MM} {m : SM} (hm : M0 g = m) {r : Int32} (h : f_X4_weight m i = some r) : Met l yX4_weight (.code yX4_weight cX4_weight 5 (some .int) :: TB) ({ frames := 1, cells := 0, slots := 0, locals := 21 } : Room) (PW D cy ad M0 [.ref (ad g 0), .ref (ad g (3 + i))]) (QI D cy ad r M0) 0 0 (AD ad) := by
  refine m_in (by decide +kernel) (Nat.le_of_ble_eq_true rfl) ?_
  intro p e s md args below meth c hC hw hS ls hl
  obtain ⟨hx, hb, hr, hml, hown, hts, hK, hlk⟩ := hC
  have hl : lv_has ls 5 [(0, .ref (ad g 0)), (1, .ref (ad g (3 + i)))] := hl
  rw [← gs_same hm] at hw
  have L4 : ∀ (n : Nat), ∀ (x2 : Int32) (x3 : Int32), f_X4_weight_L4 m i n x2 x3 = some r → JL p l e ({ frames := 1, cells := 0, slots := 0, locals := 21 } : Room) s md args below meth c D cy ad (MQ below (QI D cy ad r M0) args s 0 0 (AD ad)) (gs M0 g m) 5 [(0, .ref (ad g 0)), (1, .ref (ad g (3 + i))), (2, .int x2), (3, .int x3)] 4 [] := by
    intro n
    induction n with
    | zero =>
      intro x2 x3 h
      cases h
    | succ n ih =>
      intro x2 x3 h H locs hw hS ls hl
      rw [f_X4_weight_L4.eq_2] at h
      refine lv_iload_n hx hb dX4_weight_4 rfl (lv_at hl 3 rfl) ?_
      refine lv_aload_n hx hb dX4_weight_5 rfl (lv_at hl 0 rfl) ?_
      refine r_get hx hb hts hown hK hw (v_st hg (by decide)) gs_atc (E_st hg) inX4 rfl 3 (by decide) k_166 rfl rfl dX4_weight_6 ?_
      refine lv_icmp_ge (tgt := 58) hx hb dX4_weight_9 (by decide) (fun q1 => ?_) (fun q1 => ?_)
      · replace h := t_pos h q1
        refine lv_iload_n hx hb dX4_weight_58 rfl (lv_at hl 2 rfl) ?_
        have e1 := Option.some.inj h
        exact e_i hx hb hr hlk hw hS e1 (gs_same hm) dX4_weight_59
      · replace h := t_neg h q1
        refine lv_aload_n hx hb dX4_weight_12 rfl (lv_at hl 0 rfl) ?_
        refine r_get hx hb hts hown hK hw (v_st hg (by decide)) gs_atc (E_st hg) inX4 rfl 1 (by decide) k_162 rfl rfl dX4_weight_13 ?_
        refine lv_iload_n hx hb dX4_weight_16 rfl (lv_at hl 3 rfl) ?_
        obtain ⟨q2, h⟩ := t_gd h
        refine r_aald hx hb hK hw (v_st hg (by decide)) (t0 := 3) rfl (E_qa hg) (v := .ref (ad g (19 + x3.toNatClampNeg))) rfl q2 dX4_weight_17 ?_
        refine lv_astore (lv' := [(4, .ref (ad g (19 + x3.toNatClampNeg))), (0, .ref (ad g 0)), (1, .ref (ad g (3 + i))), (2, .int x2), (3, .int x3)]) hx hb dX4_weight_18 hl (by decide) rfl (fun ls hl => ?_)
        refine lv_aload hx hb dX4_weight_20 (lv_at hl 0 rfl) ?_
        refine r_get hx hb hts hown hK hw (v_qu hg (vin q2)) gs_atc (E_qu hg) inX3 rfl 4 (by decide) k_133 rfl rfl dX4_weight_22 ?_
        refine lv_if_ne (tgt := 52) hx hb dX4_weight_25 (by decide) (fun q3 => ?_) (fun q3 => ?_)
        · replace h := t_neg h q3
          refine lv_iinc (v := (x3 + (nI 1))) (lv' := [(3, .int (x3 + (nI 1))), (4, .ref (ad g (19 + x3.toNatClampNeg))), (0, .ref (ad g 0)), (1, .ref (ad g (3 + i))), (2, .int x2)]) hx hb dX4_weight_52 hl (k := 4) rfl rfl (by decide) rfl (fun ls hl => ?_)
          refine lv_goto (tgt := 4) hx hb dX4_weight_55 (by decide) ?_
          exact ih x2 (x3 + (nI 1)) h H locs hw hS ls (lv_sub hl [2, 3, 4, 0] rfl)
        · replace h := t_pos h q3
          refine lv_aload hx hb dX4_weight_28 (lv_at hl 0 rfl) ?_
          refine r_get hx hb hts hown hK hw (v_qu hg (vin q2)) gs_atc (E_qu hg) inX3 rfl 1 (by decide) k_124 rfl rfl dX4_weight_30 ?_
          refine lv_aload_n hx hb dX4_weight_33 rfl (lv_at hl 2 rfl) ?_
          refine r_get hx hb hts hown hK hw (v_bk hg hi) gs_atc (E_bk hg hi) inX0 rfl 1 (by decide) k_75 rfl rfl dX4_weight_34 ?_
          obtain ⟨r5, y4, h⟩ := t_b1 h
          refine c_sn hx hb hml hown hts hK hw hS (fun _ h => h) (As := [.int (m (19 + x3.toNatClampNeg) 1), .int (m (3 + i) 1)]) (rest := []) (c_X5_covers hcv (M0 := gs M0 g m) y4) cf_X5_covers k_258n rfl rfl ⟨Nat.le_of_ble_eq_true rfl, Nat.le_of_ble_eq_true rfl⟩ rfl hl.1 rfl (Nat.le_of_ble_eq_true rfl) ⟨Nat.le_refl _, Nat.le_refl _⟩ dX4_weight_37 (fun H locs hw hS => ?_)
          refine lv_if_eq (tgt := 52) hx hb dX4_weight_40 (by decide) (fun q6 => ?_) (fun q6 => ?_)
          · replace h := t_pos h q6
            refine lv_iinc (v := (x3 + (nI 1))) (lv' := [(3, .int (x3 + (nI 1))), (4, .ref (ad g (19 + x3.toNatClampNeg))), (0, .ref (ad g 0)), (1, .ref (ad g (3 + i))), (2, .int x2)]) hx hb dX4_weight_52 hl (k := 4) rfl rfl (by decide) rfl (fun ls hl => ?_)
            refine lv_goto (tgt := 4) hx hb dX4_weight_55 (by decide) ?_
            exact ih x2 (x3 + (nI 1)) h H locs hw hS ls (lv_sub hl [2, 3, 4, 0] rfl)
          · replace h := t_neg h q6
            refine lv_iload_n hx hb dX4_weight_43 rfl (lv_at hl 3 rfl) ?_
            refine lv_aload hx hb dX4_weight_44 (lv_at hl 0 rfl) ?_
            refine lv_aload_n hx hb dX4_weight_46 rfl (lv_at hl 2 rfl) ?_
            obtain ⟨r8, y7, h⟩ := t_b1 h
            refine c_vi hx hb hml hown hts hK hw hS (fun _ h => h) (As := [.ref (ad g (3 + i))]) (rest := [.int x2]) (c_X3_urgency hcv (g := g) (hg := hg) (i := x3.toNatClampNeg) (hi := (vin q2)) (i2 := i) (hi2 := hi) (M0 := gs M0 g m) (m := m) (hm := gs_at) y7) cf_X3_urgency k_314 rfl rfl ⟨Nat.le_of_ble_eq_true rfl, Nat.le_of_ble_eq_true rfl⟩ (r_recv hK hw (v_qu hg (vin q2)) (E_qu hg) rfl) rfl hl.1 rfl (Nat.le_of_ble_eq_true rfl) ⟨Nat.le_refl _, Nat.le_refl _⟩ dX4_weight_47 (fun H locs hw hS => ?_)
            refine lv_iadd hx hb dX4_weight_50 ?_
            refine lv_istore_n (lv' := [(2, .int (x2 + r8)), (4, .ref (ad g (19 + x3.toNatClampNeg))), (0, .ref (ad g 0)), (1, .ref (ad g (3 + i))), (3, .int x3)]) hx hb dX4_weight_51 rfl hl (by decide) rfl (fun ls hl => ?_)
            refine lv_iinc (v := (x3 + (nI 1))) (lv' := [(3, .int (x3 + (nI 1))), (2, .int (x2 + r8)), (4, .ref (ad g (19 + x3.toNatClampNeg))), (0, .ref (ad g 0)), (1, .ref (ad g (3 + i)))]) hx hb dX4_weight_52 hl (k := 4) rfl rfl (by decide) rfl (fun ls hl => ?_)
            refine lv_goto (tgt := 4) hx hb dX4_weight_55 (by decide) ?_
            exact ih (x2 + r8) (x3 + (nI 1)) h H locs hw hS ls (lv_sub hl [3, 4, 1, 0] rfl)
  unfold f_X4_weight at h
  have main : JL p l e ({ frames := 1, cells := 0, slots := 0, locals := 21 } : Room) s md args below meth c D cy ad (MQ below (QI D cy ad r M0) args s 0 0 (AD ad)) (gs M0 g m) 5 [(0, .ref (ad g 0)), (1, .ref (ad g (3 + i)))] 0 [] := by
    intro H locs hw hS ls hl
    refine lv_iconst (v := nI 0) hx hb dX4_weight_0 (by decide) ?_
    refine lv_istore_n (lv' := [(2, .int (nI 0)), (0, .ref (ad g 0)), (1, .ref (ad g (3 + i)))]) hx hb dX4_weight_1 rfl hl (by decide) rfl (fun ls hl => ?_)
    refine lv_iconst (v := nI 0) hx hb dX4_weight_2 (by decide) ?_
    refine lv_istore_n (lv' := [(3, .int (nI 0)), (2, .int (nI 0)), (0, .ref (ad g 0)), (1, .ref (ad g (3 + i)))]) hx hb dX4_weight_3 rfl hl (by decide) rfl (fun ls hl => ?_)
    exact L4 FU (nI 0) (nI 0) h H locs hw hS ls (lv_sub hl [2, 3, 1, 0] rfl)
  exact main _ _ hw hS ls hl

theorem cf_X4_blockInTurn : cfV RX4 yX4_blockInTurn cX4_blockInTurn 3 (some .int) 0 := ⟨⟨k_302, k_303, k_3, k_304⟩, by decide +kernel⟩
def f_X4_blockInTurn_L2 (m : SM) : Nat → Int32 → Option (Int32)
  | 0, _ => none
  | n + 1, x1 => (if (m 0 2) ≤ x1 then some (-5 : Int32) else gn (m 0 2) (gd (((m 0 5) + x1) - ((m 0 5) + x1) / (m 0 2) * (m 0 2)) 8 (b1 (f_X0_unread m ((((m 0 5) + x1) - ((m 0 5) + x1) / (m 0 2) * (m 0 2)).toNatClampNeg)) fun r5 => (if r5 ≤ (nI 0) then f_X4_blockInTurn_L2 m n (x1 + (nI 1)) else some (((m 0 5) + x1) - ((m 0 5) + x1) / (m 0 2) * (m 0 2))))))
def f_X4_blockInTurn (m : SM) : Option (Int32) :=
  f_X4_blockInTurn_L2 m FU (nI 0)
set_option maxHeartbeats 4000000 in
set_option maxRecDepth 100000 in
theorem c_X4_blockInTurn {l : Launch} {D : va_G} {cy : Nat → ClassId} {ad : Nat → Nat → Nat} (hcv : CV ad) {g : Nat} (hg : g < 7) {M0 : MM} {m : SM} (hm : M0 g = m) {r : Int32} (h : f_X4_blockInTurn m = some r) : Met l yX4_blockInTurn (.code yX4_blockInTurn cX4_blockInTurn 3 (some .int) :: TB) ({ frames := 1, cells := 0, slots := 0, locals := 20 } : Room) (PW D cy ad M0 [.ref (ad g 0)]) (QI D cy ad r M0) 0 0 (AD ad) := by
  refine m_in (by decide +kernel) (Nat.le_of_ble_eq_true rfl) ?_
  intro p e s md args below meth c hC hw hS ls hl
  obtain ⟨hx, hb, hr, hml, hown, hts, hK, hlk⟩ := hC
  have hl : lv_has ls 3 [(0, .ref (ad g 0))] := hl
  rw [← gs_same hm] at hw
  have L2 : ∀ (n : Nat), ∀ (x1 : Int32), f_X4_blockInTurn_L2 m n x1 = some r → JL p l e ({ frames := 1, cells := 0, slots := 0, locals := 20 } : Room) s md args below meth c D cy ad (MQ below (QI D cy ad r M0) args s 0 0 (AD ad)) (gs M0 g m) 3 [(0, .ref (ad g 0)), (1, .int x1)] 2 [] := by
    intro n
    induction n with
    | zero =>
      intro x1 h
      cases h
    | succ n ih =>
      intro x1 h H locs hw hS ls hl
      rw [f_X4_blockInTurn_L2.eq_2] at h
      refine lv_iload_n hx hb dX4_blockInTurn_2 rfl (lv_at hl 1 rfl) ?_
      refine lv_aload_n hx hb dX4_blockInTurn_3 rfl (lv_at hl 0 rfl) ?_
      refine r_get hx hb hts hown hK hw (v_st hg (by decide)) gs_atc (E_st hg) inX4 rfl 2 (by decide) k_164 rfl rfl dX4_blockInTurn_4 ?_
      refine lv_icmp_ge (tgt := 42) hx hb dX4_blockInTurn_7 (by decide) (fun q1 => ?_) (fun q1 => ?_)
      · replace h := t_pos h q1
        refine lv_bipush (v := -5) hx hb dX4_blockInTurn_42 (by decide) ?_
        have e1 := Option.some.inj h
        exact e_i hx hb hr hlk hw hS e1 (gs_same hm) dX4_blockInTurn_44
      · replace h := t_neg h q1
        refine lv_aload_n hx hb dX4_blockInTurn_10 rfl (lv_at hl 0 rfl) ?_
        refine r_get hx hb hts hown hK hw (v_st hg (by decide)) gs_atc (E_st hg) inX4 rfl 5 (by decide) k_170 rfl rfl dX4_blockInTurn_11 ?_
        refine lv_iload_n hx hb dX4_blockInTurn_14 rfl (lv_at hl 1 rfl) ?_
        refine lv_iadd hx hb dX4_blockInTurn_15 ?_
        refine lv_aload_n hx hb dX4_blockInTurn_16 rfl (lv_at hl 0 rfl) ?_
        refine r_get hx hb hts hown hK hw (v_st hg (by decide)) gs_atc (E_st hg) inX4 rfl 2 (by decide) k_164 rfl rfl dX4_blockInTurn_17 ?_
        obtain ⟨q2, h⟩ := t_gn h
        refine lv_irem hx hb dX4_blockInTurn_20 q2 ?_
        refine lv_istore_n (lv' := [(2, .int (((m 0 5) + x1) - ((m 0 5) + x1) / (m 0 2) * (m 0 2))), (0, .ref (ad g 0)), (1, .int x1)]) hx hb dX4_blockInTurn_21 rfl hl (by decide) rfl (fun ls hl => ?_)
        refine lv_aload_n hx hb dX4_blockInTurn_22 rfl (lv_at hl 1 rfl) ?_
        refine r_get hx hb hts hown hK hw (v_st hg (by decide)) gs_atc (E_st hg) inX4 rfl 0 (by decide) k_160 rfl rfl dX4_blockInTurn_23 ?_
        refine lv_iload_n hx hb dX4_blockInTurn_26 rfl (lv_at hl 0 rfl) ?_
        obtain ⟨q3, h⟩ := t_gd h
        refine r_aald hx hb hK hw (v_st hg (by decide)) (t0 := 2) rfl (E_ba hg) (v := .ref (ad g (3 + (((m 0 5) + x1) - ((m 0 5) + x1) / (m 0 2) * (m 0 2)).toNatClampNeg))) rfl q3 dX4_blockInTurn_27 ?_
        obtain ⟨r5, y4, h⟩ := t_b1 h
        refine c_vi hx hb hml hown hts hK hw hS (fun _ h => h) (As := []) (rest := []) (c_X0_unread hcv (g := g) (hg := hg) (i := (((m 0 5) + x1) - ((m 0 5) + x1) / (m 0 2) * (m 0 2)).toNatClampNeg) (hi := (vin q3)) (M0 := gs M0 g m) (m := m) (hm := gs_at) y4) cf_X0_unread k_305 rfl rfl ⟨Nat.le_of_ble_eq_true rfl, Nat.le_of_ble_eq_true rfl⟩ (r_recv hK hw (v_bk hg (vin q3)) (E_bk hg (vin q3)) rfl) rfl hl.1 rfl (Nat.le_of_ble_eq_true rfl) ⟨Nat.le_refl _, Nat.le_refl _⟩ dX4_blockInTurn_28 (fun H locs hw hS => ?_)
        refine lv_if_le (tgt := 36) hx hb dX4_blockInTurn_31 (by decide) (fun q6 => ?_) (fun q6 => ?_)
        · replace h := t_pos h q6
          refine lv_iinc (v := (x1 + (nI 1))) (lv' := [(1, .int (x1 + (nI 1))), (2, .int (((m 0 5) + x1) - ((m 0 5) + x1) / (m 0 2) * (m 0 2))), (0, .ref (ad g 0))]) hx hb dX4_blockInTurn_36 hl (k := 2) rfl rfl (by decide) rfl (fun ls hl => ?_)
          refine lv_goto (tgt := 2) hx hb dX4_blockInTurn_39 (by decide) ?_
          exact ih (x1 + (nI 1)) h H locs hw hS ls (lv_sub hl [2, 0] rfl)
        · replace h := t_neg h q6
          refine lv_iload_n hx hb dX4_blockInTurn_34 rfl (lv_at hl 0 rfl) ?_
          have e1 := Option.some.inj h
          exact e_i hx hb hr hlk hw hS e1 (gs_same hm) dX4_blockInTurn_35
  unfold f_X4_blockInTurn at h
  have main : JL p l e ({ frames := 1, cells := 0, slots := 0, locals := 20 } : Room) s md args below meth c D cy ad (MQ below (QI D cy ad r M0) args s 0 0 (AD ad)) (gs M0 g m) 3 [(0, .ref (ad g 0))] 0 [] := by
    intro H locs hw hS ls hl
    refine lv_iconst (v := nI 0) hx hb dX4_blockInTurn_0 (by decide) ?_
    refine lv_istore_n (lv' := [(1, .int (nI 0)), (0, .ref (ad g 0))]) hx hb dX4_blockInTurn_1 rfl hl (by decide) rfl (fun ls hl => ?_)
    exact L2 FU (nI 0) h H locs hw hS ls (lv_sub hl [1, 0] rfl)
  exact main _ _ hw hS ls hl

theorem cf_X4_mostPressingBlock : cfV RX4 yX4_mostPressingBlock cX4_mostPressingBlock 6 (some .int) 0 := ⟨⟨k_307, k_308, k_3, k_309⟩, by decide +kernel⟩
def f_X4_mostPressingBlock_L65 (k7 : Int32 → Int32 → Int32 → Option (Int32)) (m : SM) (x1 : Int32) (x2 : Int32) (x3 : Int32) (s0 : Int32) : Option (Int32) :=
  (if s0 ≤ x2 then k7 x1 x2 (x3 + (nI 1)) else k7 x3 s0 (x3 + (nI 1)))
def f_X4_mostPressingBlock_L7 (m : SM) : Nat → Int32 → Int32 → Int32 → Option (Int32)
  | 0, _, _, _ => none
  | n + 1, x1, x2, x3 => (if (m 0 2) ≤ x3 then some x1 else gd x3 8 (b1 (f_X0_unread m x3.toNatClampNeg) fun r4 => (if r4 ≤ (nI 0) then f_X4_mostPressingBlock_L7 m n x1 x2 (x3 + (nI 1)) else (if (m 0 4) = (nI 1) then b1 (f_X0_unread m x3.toNatClampNeg) fun r10 => f_X4_mostPressingBlock_L65 (f_X4_mostPressingBlock_L7 m n) m x1 x2 x3 (r10 * ((m (3 + x3.toNatClampNeg) 3) - (m (3 + x3.toNatClampNeg) 2))) else b1 (f_X4_weight m x3.toNatClampNeg) fun r8 => f_X4_mostPressingBlock_L65 (f_X4_mostPressingBlock_L7 m n) m x1 x2 x3 r8))))
def f_X4_mostPressingBlock (m : SM) : Option (Int32) :=
  f_X4_mostPressingBlock_L7 m FU (-5 : Int32) (-1 : Int32) (nI 0)
set_option maxHeartbeats 4000000 in
set_option maxRecDepth 100000 in
theorem c_X4_mostPressingBlock {l : Launch} {D : va_G} {cy : Nat → ClassId} {ad : Nat → Nat → Nat} (hcv : CV ad) {g : Nat} (hg : g < 7) {M0 : MM} {m : SM} (hm : M0 g = m) {r : Int32} (h : f_X4_mostPressingBlock m = some r) : Met l yX4_mostPressingBlock (.code yX4_mostPressingBlock cX4_mostPressingBlock 6 (some .int) :: TB) ({ frames := 2, cells := 0, slots := 0, locals := 45 } : Room) (PW D cy ad M0 [.ref (ad g 0)]) (QI D cy ad r M0) 0 0 (AD ad) := by
  refine m_in (by decide +kernel) (Nat.le_of_ble_eq_true rfl) ?_
  intro p e s md args below meth c hC hw hS ls hl
  obtain ⟨hx, hb, hr, hml, hown, hts, hK, hlk⟩ := hC
  have hl : lv_has ls 6 [(0, .ref (ad g 0))] := hl
  rw [← gs_same hm] at hw
  have L65 : ∀ (k7 : Int32 → Int32 → Int32 → Option (Int32)) (hk7 : ∀ (x1 : Int32) (x2 : Int32) (x3 : Int32), k7 x1 x2 x3 = some r → JL p l e ({ frames := 2, cells := 0, slots := 0, locals := 45 } : Room) s md args below meth c D cy ad (MQ below (QI D cy ad r M0) args s 0 0 (AD ad)) (gs M0 g m) 6 [(0, .ref (ad g 0)), (1, .int x1), (2, .int x2), (3, .int x3)] 7 []), ∀ (x1 : Int32) (x2 : Int32) (x3 : Int32) (s0 : Int32), f_X4_mostPressingBlock_L65 k7 m x1 x2 x3 s0 = some r → JL p l e ({ frames := 2, cells := 0, slots := 0, locals := 45 } : Room) s md args below meth c D cy ad (MQ below (QI D cy ad r M0) args s 0 0 (AD ad)) (gs M0 g m) 6 [(0, .ref (ad g 0)), (1, .int x1), (2, .int x2), (3, .int x3)] 65 [.int s0] := by
    intro k7 hk7 x1 x2 x3 s0 h H locs hw hS ls hl
    unfold f_X4_mostPressingBlock_L65 at h
    refine lv_istore (lv' := [(5, .int s0), (0, .ref (ad g 0)), (1, .int x1), (2, .int x2), (3, .int x3)]) hx hb dX4_mostPressingBlock_65 hl (by decide) rfl (fun ls hl => ?_)
    refine lv_iload hx hb dX4_mostPressingBlock_67 (lv_at hl 0 rfl) ?_
    refine lv_iload_n hx hb dX4_mostPressingBlock_69 rfl (lv_at hl 3 rfl) ?_
    refine lv_icmp_le (tgt := 78) hx hb dX4_mostPressingBlock_70 (by decide) (fun q1 => ?_) (fun q1 => ?_)
    · replace h := t_pos h q1
      refine lv_iinc (v := (x3 + (nI 1))) (lv' := [(3, .int (x3 + (nI 1))), (5, .int s0), (0, .ref (ad g 0)), (1, .int x1), (2, .int x2)]) hx hb dX4_mostPressingBlock_78 hl (k := 4) rfl rfl (by decide) rfl (fun ls hl => ?_)
      refine lv_goto (tgt := 7) hx hb dX4_mostPressingBlock_81 (by decide) ?_
      exact hk7 x1 x2 (x3 + (nI 1)) h H locs hw hS ls (lv_sub hl [2, 3, 4, 0] rfl)
    · replace h := t_neg h q1
      refine lv_iload_n hx hb dX4_mostPressingBlock_73 rfl (lv_at hl 4 rfl) ?_
      refine lv_istore_n (lv' := [(1, .int x3), (5, .int s0), (0, .ref (ad g 0)), (2, .int x2), (3, .int x3)]) hx hb dX4_mostPressingBlock_74 rfl hl (by decide) rfl (fun ls hl => ?_)
      refine lv_iload hx hb dX4_mostPressingBlock_75 (lv_at hl 1 rfl) ?_
      refine lv_istore_n (lv' := [(2, .int s0), (1, .int x3), (5, .int s0), (0, .ref (ad g 0)), (3, .int x3)]) hx hb dX4_mostPressingBlock_77 rfl hl (by decide) rfl (fun ls hl => ?_)
      refine lv_iinc (v := (x3 + (nI 1))) (lv' := [(3, .int (x3 + (nI 1))), (2, .int s0), (1, .int x3), (5, .int s0), (0, .ref (ad g 0))]) hx hb dX4_mostPressingBlock_78 hl (k := 4) rfl rfl (by decide) rfl (fun ls hl => ?_)
      refine lv_goto (tgt := 7) hx hb dX4_mostPressingBlock_81 (by decide) ?_
      exact hk7 x3 s0 (x3 + (nI 1)) h H locs hw hS ls (lv_sub hl [4, 2, 1, 0] rfl)
  have L7 : ∀ (n : Nat), ∀ (x1 : Int32) (x2 : Int32) (x3 : Int32), f_X4_mostPressingBlock_L7 m n x1 x2 x3 = some r → JL p l e ({ frames := 2, cells := 0, slots := 0, locals := 45 } : Room) s md args below meth c D cy ad (MQ below (QI D cy ad r M0) args s 0 0 (AD ad)) (gs M0 g m) 6 [(0, .ref (ad g 0)), (1, .int x1), (2, .int x2), (3, .int x3)] 7 [] := by
    intro n
    induction n with
    | zero =>
      intro x1 x2 x3 h
      cases h
    | succ n ih =>
      intro x1 x2 x3 h H locs hw hS ls hl
      rw [f_X4_mostPressingBlock_L7.eq_2] at h
      refine lv_iload_n hx hb dX4_mostPressingBlock_7 rfl (lv_at hl 3 rfl) ?_
      refine lv_aload_n hx hb dX4_mostPressingBlock_8 rfl (lv_at hl 0 rfl) ?_
      refine r_get hx hb hts hown hK hw (v_st hg (by decide)) gs_atc (E_st hg) inX4 rfl 2 (by decide) k_164 rfl rfl dX4_mostPressingBlock_9 ?_
      refine lv_icmp_ge (tgt := 84) hx hb dX4_mostPressingBlock_12 (by decide) (fun q1 => ?_) (fun q1 => ?_)
      · replace h := t_pos h q1
        refine lv_iload_n hx hb dX4_mostPressingBlock_84 rfl (lv_at hl 1 rfl) ?_
        have e1 := Option.some.inj h
        exact e_i hx hb hr hlk hw hS e1 (gs_same hm) dX4_mostPressingBlock_85
      · replace h := t_neg h q1
        refine lv_aload_n hx hb dX4_mostPressingBlock_15 rfl (lv_at hl 0 rfl) ?_
        refine r_get hx hb hts hown hK hw (v_st hg (by decide)) gs_atc (E_st hg) inX4 rfl 0 (by decide) k_160 rfl rfl dX4_mostPressingBlock_16 ?_
        refine lv_iload_n hx hb dX4_mostPressingBlock_19 rfl (lv_at hl 3 rfl) ?_
        obtain ⟨q2, h⟩ := t_gd h
        refine r_aald hx hb hK hw (v_st hg (by decide)) (t0 := 2) rfl (E_ba hg) (v := .ref (ad g (3 + x3.toNatClampNeg))) rfl q2 dX4_mostPressingBlock_20 ?_
        refine lv_astore (lv' := [(4, .ref (ad g (3 + x3.toNatClampNeg))), (0, .ref (ad g 0)), (1, .int x1), (2, .int x2), (3, .int x3)]) hx hb dX4_mostPressingBlock_21 hl (by decide) rfl (fun ls hl => ?_)
        refine lv_aload hx hb dX4_mostPressingBlock_23 (lv_at hl 0 rfl) ?_
        obtain ⟨r4, y3, h⟩ := t_b1 h
        refine c_vi hx hb hml hown hts hK hw hS (fun _ h => h) (As := []) (rest := []) (c_X0_unread hcv (g := g) (hg := hg) (i := x3.toNatClampNeg) (hi := (vin q2)) (M0 := gs M0 g m) (m := m) (hm := gs_at) y3) cf_X0_unread k_305 rfl rfl ⟨Nat.le_of_ble_eq_true rfl, Nat.le_of_ble_eq_true rfl⟩ (r_recv hK hw (v_bk hg (vin q2)) (E_bk hg (vin q2)) rfl) rfl hl.1 rfl (Nat.le_of_ble_eq_true rfl) ⟨Nat.le_refl _, Nat.le_refl _⟩ dX4_mostPressingBlock_25 (fun H locs hw hS => ?_)
        refine lv_if_le (tgt := 78) hx hb dX4_mostPressingBlock_28 (by decide) (fun q5 => ?_) (fun q5 => ?_)
        · replace h := t_pos h q5
          refine lv_iinc (v := (x3 + (nI 1))) (lv' := [(3, .int (x3 + (nI 1))), (4, .ref (ad g (3 + x3.toNatClampNeg))), (0, .ref (ad g 0)), (1, .int x1), (2, .int x2)]) hx hb dX4_mostPressingBlock_78 hl (k := 4) rfl rfl (by decide) rfl (fun ls hl => ?_)
          refine lv_goto (tgt := 7) hx hb dX4_mostPressingBlock_81 (by decide) ?_
          exact ih x1 x2 (x3 + (nI 1)) h H locs hw hS ls (lv_sub hl [2, 3, 4, 0] rfl)
        · replace h := t_neg h q5
          refine lv_aload_n hx hb dX4_mostPressingBlock_31 rfl (lv_at hl 1 rfl) ?_
          refine r_get hx hb hts hown hK hw (v_st hg (by decide)) gs_atc (E_st hg) inX4 rfl 4 (by decide) k_168 rfl rfl dX4_mostPressingBlock_32 ?_
          refine lv_iconst (v := nI 1) hx hb dX4_mostPressingBlock_35 (by decide) ?_
          refine lv_icmp_ne (tgt := 59) hx hb dX4_mostPressingBlock_36 (by decide) (fun q6 => ?_) (fun q6 => ?_)
          · replace h := t_neg h q6
            refine lv_aload_n hx hb dX4_mostPressingBlock_59 rfl (lv_at hl 1 rfl) ?_
            refine lv_aload hx hb dX4_mostPressingBlock_60 (lv_at hl 0 rfl) ?_
            obtain ⟨r8, y7, h⟩ := t_b1 h
            refine c_vi hx hb hml hown hts hK hw hS (fun _ h => h) (As := [.ref (ad g (3 + x3.toNatClampNeg))]) (rest := []) (c_X4_weight hcv (g := g) (hg := hg) (i := x3.toNatClampNeg) (hi := (vin q2)) (M0 := gs M0 g m) (m := m) (hm := gs_at) y7) cf_X4_weight k_310 rfl rfl ⟨Nat.le_of_ble_eq_true rfl, Nat.le_of_ble_eq_true rfl⟩ (r_recv hK hw (v_st hg (by decide)) (E_st hg) rfl) rfl hl.1 rfl (Nat.le_of_ble_eq_true rfl) ⟨Nat.le_refl _, Nat.le_refl _⟩ dX4_mostPressingBlock_62 (fun H locs hw hS => ?_)
            exact L65 (f_X4_mostPressingBlock_L7 m n) ih x1 x2 x3 r8 h H locs hw hS ls (lv_sub hl [1, 2, 3, 4] rfl)
          · replace h := t_pos h q6
            refine lv_aload hx hb dX4_mostPressingBlock_39 (lv_at hl 0 rfl) ?_
            obtain ⟨r10, y9, h⟩ := t_b1 h
            refine c_vi hx hb hml hown hts hK hw hS (fun _ h => h) (As := []) (rest := []) (c_X0_unread hcv (g := g) (hg := hg) (i := x3.toNatClampNeg) (hi := (vin q2)) (M0 := gs M0 g m) (m := m) (hm := gs_at) y9) cf_X0_unread k_305 rfl rfl ⟨Nat.le_of_ble_eq_true rfl, Nat.le_of_ble_eq_true rfl⟩ (r_recv hK hw (v_bk hg (vin q2)) (E_bk hg (vin q2)) rfl) rfl hl.1 rfl (Nat.le_of_ble_eq_true rfl) ⟨Nat.le_refl _, Nat.le_refl _⟩ dX4_mostPressingBlock_41 (fun H locs hw hS => ?_)
            refine lv_aload hx hb dX4_mostPressingBlock_44 (lv_at hl 0 rfl) ?_
            refine r_get hx hb hts hown hK hw (v_bk hg (vin q2)) gs_atc (E_bk hg (vin q2)) inX0 rfl 3 (by decide) k_83 rfl rfl dX4_mostPressingBlock_46 ?_
            refine lv_aload hx hb dX4_mostPressingBlock_49 (lv_at hl 0 rfl) ?_
            refine r_get hx hb hts hown hK hw (v_bk hg (vin q2)) gs_atc (E_bk hg (vin q2)) inX0 rfl 2 (by decide) k_79 rfl rfl dX4_mostPressingBlock_51 ?_
            refine lv_isub hx hb dX4_mostPressingBlock_54 ?_
            refine lv_imul hx hb dX4_mostPressingBlock_55 ?_
            refine lv_goto (tgt := 65) hx hb dX4_mostPressingBlock_56 (by decide) ?_
            exact L65 (f_X4_mostPressingBlock_L7 m n) ih x1 x2 x3 (r10 * ((m (3 + x3.toNatClampNeg) 3) - (m (3 + x3.toNatClampNeg) 2))) h H locs hw hS ls (lv_sub hl [1, 2, 3, 4] rfl)
  unfold f_X4_mostPressingBlock at h
  have main : JL p l e ({ frames := 2, cells := 0, slots := 0, locals := 45 } : Room) s md args below meth c D cy ad (MQ below (QI D cy ad r M0) args s 0 0 (AD ad)) (gs M0 g m) 6 [(0, .ref (ad g 0))] 0 [] := by
    intro H locs hw hS ls hl
    refine lv_bipush (v := -5) hx hb dX4_mostPressingBlock_0 (by decide) ?_
    refine lv_istore_n (lv' := [(1, .int (-5 : Int32)), (0, .ref (ad g 0))]) hx hb dX4_mostPressingBlock_2 rfl hl (by decide) rfl (fun ls hl => ?_)
    refine lv_iconst (v := -1) hx hb dX4_mostPressingBlock_3 (by decide) ?_
    refine lv_istore_n (lv' := [(2, .int (-1 : Int32)), (1, .int (-5 : Int32)), (0, .ref (ad g 0))]) hx hb dX4_mostPressingBlock_4 rfl hl (by decide) rfl (fun ls hl => ?_)
    refine lv_iconst (v := nI 0) hx hb dX4_mostPressingBlock_5 (by decide) ?_
    refine lv_istore_n (lv' := [(3, .int (nI 0)), (2, .int (-1 : Int32)), (1, .int (-5 : Int32)), (0, .ref (ad g 0))]) hx hb dX4_mostPressingBlock_6 rfl hl (by decide) rfl (fun ls hl => ?_)
    exact L7 FU (-5 : Int32) (-1 : Int32) (nI 0) h H locs hw hS ls (lv_sub hl [3, 2, 1, 0] rfl)
  exact main _ _ hw hS ls hl

theorem cf_X4_nextBlock : cfV RX4 yX4_nextBlock cX4_nextBlock 1 (some .int) 0 := ⟨⟨k_298, k_299, k_3, k_300⟩, by decide +kernel⟩
def f_X4_nextBlock (m : SM) : Option (Int32) :=
  (if (m 0 4) = (nI 0) then b1 (f_X4_blockInTurn m) fun r5 => some r5 else b1 (f_X4_mostPressingBlock m) fun r3 => some r3)
set_option maxHeartbeats 4000000 in
set_option maxRecDepth 100000 in
theorem c_X4_nextBlock {l : Launch} {D : va_G} {cy : Nat → ClassId} {ad : Nat → Nat → Nat} (hcv : CV ad) {g : Nat} (hg : g < 7) {M0 : MM} {m : SM} (hm : M0 g = m) {r : Int32} (h : f_X4_nextBlock m = some r) : Met l yX4_nextBlock (.code yX4_nextBlock cX4_nextBlock 1 (some .int) :: TB) ({ frames := 3, cells := 0, slots := 0, locals := 70 } : Room) (PW D cy ad M0 [.ref (ad g 0)]) (QI D cy ad r M0) 0 0 (AD ad) := by
  refine m_in (by decide +kernel) (Nat.le_of_ble_eq_true rfl) ?_
  intro p e s md args below meth c hC hw hS ls hl
  obtain ⟨hx, hb, hr, hml, hown, hts, hK, hlk⟩ := hC
  have hl : lv_has ls 1 [(0, .ref (ad g 0))] := hl
  rw [← gs_same hm] at hw
  unfold f_X4_nextBlock at h
  have main : JL p l e ({ frames := 3, cells := 0, slots := 0, locals := 70 } : Room) s md args below meth c D cy ad (MQ below (QI D cy ad r M0) args s 0 0 (AD ad)) (gs M0 g m) 1 [(0, .ref (ad g 0))] 0 [] := by
    intro H locs hw hS ls hl
    refine lv_aload_n hx hb dX4_nextBlock_0 rfl (lv_at hl 0 rfl) ?_
    refine r_get hx hb hts hown hK hw (v_st hg (by decide)) gs_atc (E_st hg) inX4 rfl 4 (by decide) k_168 rfl rfl dX4_nextBlock_1 ?_
    refine lv_if_ne (tgt := 14) hx hb dX4_nextBlock_4 (by decide) (fun q1 => ?_) (fun q1 => ?_)
    · replace h := t_neg h q1
      refine lv_aload_n hx hb dX4_nextBlock_14 rfl (lv_at hl 0 rfl) ?_
      obtain ⟨r3, y2, h⟩ := t_b1 h
      refine c_vi hx hb hml hown hts hK hw hS (fun _ h => h) (As := []) (rest := []) (c_X4_mostPressingBlock hcv (g := g) (hg := hg) (M0 := gs M0 g m) (m := m) (hm := gs_at) y2) cf_X4_mostPressingBlock k_306 rfl rfl ⟨Nat.le_of_ble_eq_true rfl, Nat.le_of_ble_eq_true rfl⟩ (r_recv hK hw (v_st hg (by decide)) (E_st hg) rfl) rfl hl.1 rfl (Nat.le_of_ble_eq_true rfl) ⟨Nat.le_refl _, Nat.le_refl _⟩ dX4_nextBlock_15 (fun H locs hw hS => ?_)
      have e1 := Option.some.inj h
      exact e_i hx hb hr hlk hw hS e1 (gs_same hm) dX4_nextBlock_18
    · replace h := t_pos h q1
      refine lv_aload_n hx hb dX4_nextBlock_7 rfl (lv_at hl 0 rfl) ?_
      obtain ⟨r5, y4, h⟩ := t_b1 h
      refine c_vi hx hb hml hown hts hK hw hS (fun _ h => h) (As := []) (rest := []) (c_X4_blockInTurn hcv (g := g) (hg := hg) (M0 := gs M0 g m) (m := m) (hm := gs_at) y4) cf_X4_blockInTurn k_301 rfl rfl ⟨Nat.le_of_ble_eq_true rfl, Nat.le_of_ble_eq_true rfl⟩ (r_recv hK hw (v_st hg (by decide)) (E_st hg) rfl) rfl hl.1 rfl (Nat.le_of_ble_eq_true rfl) ⟨Nat.le_refl _, Nat.le_refl _⟩ dX4_nextBlock_8 (fun H locs hw hS => ?_)
      refine lv_goto (tgt := 18) hx hb dX4_nextBlock_11 (by decide) ?_
      have e1 := Option.some.inj h
      exact e_i hx hb hr hlk hw hS e1 (gs_same hm) dX4_nextBlock_18
  exact main _ _ hw hS ls hl

theorem cf_X4_readByPlan : cfV RX4 yX4_readByPlan cX4_readByPlan 2 (some .boolean) 0 := ⟨⟨k_319, k_320, k_3, k_321⟩, by decide +kernel⟩
def f_X4_readByPlan_L50 (m : SM) (s1 : Int32) : Option (Int32 × SM) :=
  lt1 (up m 0 5 s1) fun m2 => bd (f_X4_settle m2) fun r4 m5 => some ((nI 1), m5)
def f_X4_readByPlan (m : SM) : Option (Int32 × SM) :=
  b1 (f_X4_nextBlock m) fun r2 => b1 (f_X4_hasBlock m r2) fun r4 => (if r4 = (nI 0) then some ((nI 0), m) else gd r2 8 (bd (f_X0_readRow m r2.toNatClampNeg) fun r8 m9 => (if (m9 0 4) = (nI 0) then (if (m9 0 2) ≤ (r2 + (nI 1)) then f_X4_readByPlan_L50 m9 (nI 0) else f_X4_readByPlan_L50 m9 (r2 + (nI 1))) else bd (f_X4_settle m9) fun r12 m13 => some ((nI 1), m13))))
set_option maxHeartbeats 4000000 in
set_option maxRecDepth 100000 in
theorem c_X4_readByPlan {l : Launch} {D : va_G} {cy : Nat → ClassId} {ad : Nat → Nat → Nat} (hcv : CV ad) {g : Nat} (hg : g < 7) {M0 : MM} {m : SM} (hm : M0 g = m) {r : Int32} {x : SM} (h : f_X4_readByPlan m = some (r, x)) : Met l yX4_readByPlan (.code yX4_readByPlan cX4_readByPlan 2 (some .boolean) :: TB) ({ frames := 4, cells := 0, slots := 0, locals := 98 } : Room) (PW D cy ad M0 [.ref (ad g 0)]) (QI D cy ad r (gs M0 g x)) 0 0 (AD ad) := by
  refine m_in (by decide +kernel) (Nat.le_of_ble_eq_true rfl) ?_
  intro p e s md args below meth c hC hw hS ls hl
  obtain ⟨hx, hb, hr, hml, hown, hts, hK, hlk⟩ := hC
  have hl : lv_has ls 2 [(0, .ref (ad g 0))] := hl
  rw [← gs_same hm] at hw
  have L50 : ∀ (m : SM) (s1 : Int32), f_X4_readByPlan_L50 m s1 = some (r, x) → JL p l e ({ frames := 4, cells := 0, slots := 0, locals := 98 } : Room) s md args below meth c D cy ad (MQ below (QI D cy ad r (gs M0 g x)) args s 0 0 (AD ad)) (gs M0 g m) 2 [(0, .ref (ad g 0))] 50 [.int s1, .ref (ad g 0)] := by
    intro m s1 h H locs hw hS ls hl
    unfold f_X4_readByPlan_L50 at h
    obtain ⟨m2, e1, h⟩ := t_lt h
    refine r_put hx hb hts hown hK hcv hw hS (v_st hg (by decide)) gs_atc (E_st hg) inX4 rfl tyX4 tyX4_ok nmX4 5 (by decide) k_170 rfl rfl rfl rfl (Nat.le_of_ble_eq_true rfl) (E_st hg) (gs_up e1) dX4_readByPlan_50 (fun H locs hw hS => ?_)
    refine lv_aload_n hx hb dX4_readByPlan_53 rfl (lv_at hl 0 rfl) ?_
    obtain ⟨r4, m5, y3, h⟩ := t_bd h
    refine c_vv hx hb hml hown hts hK hw hS (fun _ h => h) (As := []) (rest := []) (c_X4_settle hcv (g := g) (hg := hg) (M0 := gs M0 g m2) (m := m2) (hm := gs_at) y3) cf_X4_settle k_332 rfl rfl ⟨Nat.le_of_ble_eq_true rfl, Nat.le_of_ble_eq_true rfl⟩ (r_recv hK hw (v_st hg (by decide)) (E_st hg) rfl) rfl hl.1 rfl (Nat.le_of_ble_eq_true rfl) ⟨Nat.le_refl _, Nat.le_refl _⟩ dX4_readByPlan_54 (fun H locs hw hS => ?_)
    rw [gs_gs] at hw
    refine lv_iconst (v := nI 1) hx hb dX4_readByPlan_57 (by decide) ?_
    have e1 := (t_ret h).1
    have e2 := (t_ret h).2
    exact e_z hx hb hr hlk (Or.inr rfl) hw hS e1 (by rw [e2]) dX4_readByPlan_58
  unfold f_X4_readByPlan at h
  have main : JL p l e ({ frames := 4, cells := 0, slots := 0, locals := 98 } : Room) s md args below meth c D cy ad (MQ below (QI D cy ad r (gs M0 g x)) args s 0 0 (AD ad)) (gs M0 g m) 2 [(0, .ref (ad g 0))] 0 [] := by
    intro H locs hw hS ls hl
    refine lv_aload_n hx hb dX4_readByPlan_0 rfl (lv_at hl 0 rfl) ?_
    obtain ⟨r2, y1, h⟩ := t_b1 h
    refine c_vi hx hb hml hown hts hK hw hS (fun _ h => h) (As := []) (rest := []) (c_X4_nextBlock hcv (g := g) (hg := hg) (M0 := gs M0 g m) (m := m) (hm := gs_at) y1) cf_X4_nextBlock k_322 rfl rfl ⟨Nat.le_of_ble_eq_true rfl, Nat.le_of_ble_eq_true rfl⟩ (r_recv hK hw (v_st hg (by decide)) (E_st hg) rfl) rfl hl.1 rfl (Nat.le_of_ble_eq_true rfl) ⟨Nat.le_refl _, Nat.le_refl _⟩ dX4_readByPlan_1 (fun H locs hw hS => ?_)
    refine lv_istore_n (lv' := [(1, .int r2), (0, .ref (ad g 0))]) hx hb dX4_readByPlan_4 rfl hl (by decide) rfl (fun ls hl => ?_)
    refine lv_aload_n hx hb dX4_readByPlan_5 rfl (lv_at hl 1 rfl) ?_
    refine lv_iload_n hx hb dX4_readByPlan_6 rfl (lv_at hl 0 rfl) ?_
    obtain ⟨r4, y3, h⟩ := t_b1 h
    refine c_vi hx hb hml hown hts hK hw hS (fun _ h => h) (As := [.int r2]) (rest := []) (c_X4_hasBlock hcv (g := g) (hg := hg) (M0 := gs M0 g m) (m := m) (hm := gs_at) y3) cf_X4_hasBlock k_323 rfl rfl ⟨Nat.le_of_ble_eq_true rfl, Nat.le_of_ble_eq_true rfl⟩ (r_recv hK hw (v_st hg (by decide)) (E_st hg) rfl) rfl hl.1 rfl (Nat.le_of_ble_eq_true rfl) ⟨Nat.le_refl _, Nat.le_refl _⟩ dX4_readByPlan_7 (fun H locs hw hS => ?_)
    refine lv_if_ne (tgt := 15) hx hb dX4_readByPlan_10 (by decide) (fun q5 => ?_) (fun q5 => ?_)
    · replace h := t_neg h q5
      refine lv_aload_n hx hb dX4_readByPlan_15 rfl (lv_at hl 1 rfl) ?_
      refine r_get hx hb hts hown hK hw (v_st hg (by decide)) gs_atc (E_st hg) inX4 rfl 0 (by decide) k_160 rfl rfl dX4_readByPlan_16 ?_
      refine lv_iload_n hx hb dX4_readByPlan_19 rfl (lv_at hl 0 rfl) ?_
      obtain ⟨q6, h⟩ := t_gd h
      refine r_aald hx hb hK hw (v_st hg (by decide)) (t0 := 2) rfl (E_ba hg) (v := .ref (ad g (3 + r2.toNatClampNeg))) rfl q6 dX4_readByPlan_20 ?_
      obtain ⟨r8, m9, y7, h⟩ := t_bd h
      refine c_vi hx hb hml hown hts hK hw hS (fun _ h => h) (As := []) (rest := []) (c_X0_readRow hcv (g := g) (hg := hg) (i := r2.toNatClampNeg) (hi := (vin q6)) (M0 := gs M0 g m) (m := m) (hm := gs_at) y7) cf_X0_readRow k_328 rfl rfl ⟨Nat.le_of_ble_eq_true rfl, Nat.le_of_ble_eq_true rfl⟩ (r_recv hK hw (v_bk hg (vin q6)) (E_bk hg (vin q6)) rfl) rfl hl.1 rfl (Nat.le_of_ble_eq_true rfl) ⟨Nat.le_refl _, Nat.le_refl _⟩ dX4_readByPlan_21 (fun H locs hw hS => ?_)
      rw [gs_gs] at hw
      refine lv_pop hx hb dX4_readByPlan_24 rfl ?_
      refine lv_aload_n hx hb dX4_readByPlan_25 rfl (lv_at hl 1 rfl) ?_
      refine r_get hx hb hts hown hK hw (v_st hg (by decide)) gs_atc (E_st hg) inX4 rfl 4 (by decide) k_168 rfl rfl dX4_readByPlan_26 ?_
      refine lv_if_ne (tgt := 53) hx hb dX4_readByPlan_29 (by decide) (fun q10 => ?_) (fun q10 => ?_)
      · replace h := t_neg h q10
        refine lv_aload_n hx hb dX4_readByPlan_53 rfl (lv_at hl 1 rfl) ?_
        obtain ⟨r12, m13, y11, h⟩ := t_bd h
        refine c_vv hx hb hml hown hts hK hw hS (fun _ h => h) (As := []) (rest := []) (c_X4_settle hcv (g := g) (hg := hg) (M0 := gs M0 g m9) (m := m9) (hm := gs_at) y11) cf_X4_settle k_332 rfl rfl ⟨Nat.le_of_ble_eq_true rfl, Nat.le_of_ble_eq_true rfl⟩ (r_recv hK hw (v_st hg (by decide)) (E_st hg) rfl) rfl hl.1 rfl (Nat.le_of_ble_eq_true rfl) ⟨Nat.le_refl _, Nat.le_refl _⟩ dX4_readByPlan_54 (fun H locs hw hS => ?_)
        rw [gs_gs] at hw
        refine lv_iconst (v := nI 1) hx hb dX4_readByPlan_57 (by decide) ?_
        have e1 := (t_ret h).1
        have e2 := (t_ret h).2
        exact e_z hx hb hr hlk (Or.inr rfl) hw hS e1 (by rw [e2]) dX4_readByPlan_58
      · replace h := t_pos h q10
        refine lv_aload_n hx hb dX4_readByPlan_32 rfl (lv_at hl 1 rfl) ?_
        refine lv_iload_n hx hb dX4_readByPlan_33 rfl (lv_at hl 0 rfl) ?_
        refine lv_iconst (v := nI 1) hx hb dX4_readByPlan_34 (by decide) ?_
        refine lv_iadd hx hb dX4_readByPlan_35 ?_
        refine lv_aload_n hx hb dX4_readByPlan_36 rfl (lv_at hl 1 rfl) ?_
        refine r_get hx hb hts hown hK hw (v_st hg (by decide)) gs_atc (E_st hg) inX4 rfl 2 (by decide) k_164 rfl rfl dX4_readByPlan_37 ?_
        refine lv_icmp_ge (tgt := 49) hx hb dX4_readByPlan_40 (by decide) (fun q14 => ?_) (fun q14 => ?_)
        · replace h := t_pos h q14
          refine lv_iconst (v := nI 0) hx hb dX4_readByPlan_49 (by decide) ?_
          exact L50 m9 (nI 0) h H locs hw hS ls (lv_sub hl [1] rfl)
        · replace h := t_neg h q14
          refine lv_iload_n hx hb dX4_readByPlan_43 rfl (lv_at hl 0 rfl) ?_
          refine lv_iconst (v := nI 1) hx hb dX4_readByPlan_44 (by decide) ?_
          refine lv_iadd hx hb dX4_readByPlan_45 ?_
          refine lv_goto (tgt := 50) hx hb dX4_readByPlan_46 (by decide) ?_
          exact L50 m9 (r2 + (nI 1)) h H locs hw hS ls (lv_sub hl [1] rfl)
    · replace h := t_pos h q5
      refine lv_iconst (v := nI 0) hx hb dX4_readByPlan_13 (by decide) ?_
      have e1 := (t_ret h).1
      have e2 := (t_ret h).2
      exact e_z hx hb hr hlk (Or.inl rfl) hw hS e1 (by rw [e2]) dX4_readByPlan_14
  exact main _ _ hw hS ls hl

theorem cf_X4_readWhileOpen : cfV RX4 yX4_readWhileOpen cX4_readWhileOpen 3 (some .int) 0 := ⟨⟨k_342, k_343, k_3, k_344⟩, by decide +kernel⟩
def f_X4_readWhileOpen_L4 : Nat → SM → Int32 → Int32 → Option (Int32 × SM)
  | 0, _, _, _ => none
  | n + 1, m, x1, x2 => (if (nI 128) ≤ x2 then some (x1, m) else b1 (f_X4_openQuestions m) fun r3 => (if r3 = (nI 0) then some (x1, m) else bd (f_X4_readByPlan m) fun r6 m7 => (if r6 = (nI 0) then some (x1, m7) else f_X4_readWhileOpen_L4 n m7 (x1 + (nI 1)) (x2 + (nI 1)))))
def f_X4_readWhileOpen (m : SM) : Option (Int32 × SM) :=
  f_X4_readWhileOpen_L4 FU m (nI 0) (nI 0)
set_option maxHeartbeats 4000000 in
set_option maxRecDepth 100000 in
theorem c_X4_readWhileOpen {l : Launch} {D : va_G} {cy : Nat → ClassId} {ad : Nat → Nat → Nat} (hcv : CV ad) {g : Nat} (hg : g < 7) {M0 : MM} {m : SM} (hm : M0 g = m) {r : Int32} {x : SM} (h : f_X4_readWhileOpen m = some (r, x)) : Met l yX4_readWhileOpen (.code yX4_readWhileOpen cX4_readWhileOpen 3 (some .int) :: TB) ({ frames := 5, cells := 0, slots := 0, locals := 119 } : Room) (PW D cy ad M0 [.ref (ad g 0)]) (QI D cy ad r (gs M0 g x)) 0 0 (AD ad) := by
  refine m_in (by decide +kernel) (Nat.le_of_ble_eq_true rfl) ?_
  intro p e s md args below meth c hC hw hS ls hl
  obtain ⟨hx, hb, hr, hml, hown, hts, hK, hlk⟩ := hC
  have hl : lv_has ls 3 [(0, .ref (ad g 0))] := hl
  rw [← gs_same hm] at hw
  have L4 : ∀ (n : Nat), ∀ (m : SM) (x1 : Int32) (x2 : Int32), f_X4_readWhileOpen_L4 n m x1 x2 = some (r, x) → JL p l e ({ frames := 5, cells := 0, slots := 0, locals := 119 } : Room) s md args below meth c D cy ad (MQ below (QI D cy ad r (gs M0 g x)) args s 0 0 (AD ad)) (gs M0 g m) 3 [(0, .ref (ad g 0)), (1, .int x1), (2, .int x2)] 4 [] := by
    intro n
    induction n with
    | zero =>
      intro m x1 x2 h
      cases h
    | succ n ih =>
      intro m x1 x2 h H locs hw hS ls hl
      rw [f_X4_readWhileOpen_L4.eq_2] at h
      refine lv_iload_n hx hb dX4_readWhileOpen_4 rfl (lv_at hl 2 rfl) ?_
      refine lv_sipush (v := nI 128) hx hb dX4_readWhileOpen_5 (by decide) ?_
      refine lv_icmp_ge (tgt := 37) hx hb dX4_readWhileOpen_8 (by decide) (fun q1 => ?_) (fun q1 => ?_)
      · replace h := t_pos h q1
        refine lv_iload_n hx hb dX4_readWhileOpen_37 rfl (lv_at hl 1 rfl) ?_
        have e1 := (t_ret h).1
        have e2 := (t_ret h).2
        exact e_i hx hb hr hlk hw hS e1 (by rw [e2]) dX4_readWhileOpen_38
      · replace h := t_neg h q1
        refine lv_aload_n hx hb dX4_readWhileOpen_11 rfl (lv_at hl 0 rfl) ?_
        obtain ⟨r3, y2, h⟩ := t_b1 h
        refine c_vi hx hb hml hown hts hK hw hS (fun _ h => h) (As := []) (rest := []) (c_X4_openQuestions hcv (g := g) (hg := hg) (M0 := gs M0 g m) (m := m) (hm := gs_at) y2) cf_X4_openQuestions k_345 rfl rfl ⟨Nat.le_of_ble_eq_true rfl, Nat.le_of_ble_eq_true rfl⟩ (r_recv hK hw (v_st hg (by decide)) (E_st hg) rfl) rfl hl.1 rfl (Nat.le_of_ble_eq_true rfl) ⟨Nat.le_refl _, Nat.le_refl _⟩ dX4_readWhileOpen_12 (fun H locs hw hS => ?_)
        refine lv_if_eq (tgt := 37) hx hb dX4_readWhileOpen_15 (by decide) (fun q4 => ?_) (fun q4 => ?_)
        · replace h := t_pos h q4
          refine lv_iload_n hx hb dX4_readWhileOpen_37 rfl (lv_at hl 1 rfl) ?_
          have e1 := (t_ret h).1
          have e2 := (t_ret h).2
          exact e_i hx hb hr hlk hw hS e1 (by rw [e2]) dX4_readWhileOpen_38
        · replace h := t_neg h q4
          refine lv_aload_n hx hb dX4_readWhileOpen_18 rfl (lv_at hl 0 rfl) ?_
          obtain ⟨r6, m7, y5, h⟩ := t_bd h
          refine c_vi hx hb hml hown hts hK hw hS (fun _ h => h) (As := []) (rest := []) (c_X4_readByPlan hcv (g := g) (hg := hg) (M0 := gs M0 g m) (m := m) (hm := gs_at) y5) cf_X4_readByPlan k_346 rfl rfl ⟨Nat.le_of_ble_eq_true rfl, Nat.le_of_ble_eq_true rfl⟩ (r_recv hK hw (v_st hg (by decide)) (E_st hg) rfl) rfl hl.1 rfl (Nat.le_of_ble_eq_true rfl) ⟨Nat.le_refl _, Nat.le_refl _⟩ dX4_readWhileOpen_19 (fun H locs hw hS => ?_)
          rw [gs_gs] at hw
          refine lv_if_ne (tgt := 28) hx hb dX4_readWhileOpen_22 (by decide) (fun q8 => ?_) (fun q8 => ?_)
          · replace h := t_neg h q8
            refine lv_iinc (v := (x1 + (nI 1))) (lv' := [(1, .int (x1 + (nI 1))), (0, .ref (ad g 0)), (2, .int x2)]) hx hb dX4_readWhileOpen_28 hl (k := 1) rfl rfl (by decide) rfl (fun ls hl => ?_)
            refine lv_iinc (v := (x2 + (nI 1))) (lv' := [(2, .int (x2 + (nI 1))), (1, .int (x1 + (nI 1))), (0, .ref (ad g 0))]) hx hb dX4_readWhileOpen_31 hl (k := 2) rfl rfl (by decide) rfl (fun ls hl => ?_)
            refine lv_goto (tgt := 4) hx hb dX4_readWhileOpen_34 (by decide) ?_
            exact ih m7 (x1 + (nI 1)) (x2 + (nI 1)) h H locs hw hS ls (lv_sub hl [2, 1, 0] rfl)
          · replace h := t_pos h q8
            refine lv_goto (tgt := 37) hx hb dX4_readWhileOpen_25 (by decide) ?_
            refine lv_iload_n hx hb dX4_readWhileOpen_37 rfl (lv_at hl 1 rfl) ?_
            have e1 := (t_ret h).1
            have e2 := (t_ret h).2
            exact e_i hx hb hr hlk hw hS e1 (by rw [e2]) dX4_readWhileOpen_38
  unfold f_X4_readWhileOpen at h
  have main : JL p l e ({ frames := 5, cells := 0, slots := 0, locals := 119 } : Room) s md args below meth c D cy ad (MQ below (QI D cy ad r (gs M0 g x)) args s 0 0 (AD ad)) (gs M0 g m) 3 [(0, .ref (ad g 0))] 0 [] := by
    intro H locs hw hS ls hl
    refine lv_iconst (v := nI 0) hx hb dX4_readWhileOpen_0 (by decide) ?_
    refine lv_istore_n (lv' := [(1, .int (nI 0)), (0, .ref (ad g 0))]) hx hb dX4_readWhileOpen_1 rfl hl (by decide) rfl (fun ls hl => ?_)
    refine lv_iconst (v := nI 0) hx hb dX4_readWhileOpen_2 (by decide) ?_
    refine lv_istore_n (lv' := [(2, .int (nI 0)), (1, .int (nI 0)), (0, .ref (ad g 0))]) hx hb dX4_readWhileOpen_3 rfl hl (by decide) rfl (fun ls hl => ?_)
    exact L4 FU m (nI 0) (nI 0) h H locs hw hS ls (lv_sub hl [2, 1, 0] rfl)
  exact main _ _ hw hS ls hl

theorem cf_X5_addBlock : cfV RX5 yX5_addBlock cX5_addBlock 2 (some .int) 0 := ⟨⟨k_437, k_438, k_1, k_439⟩, by decide +kernel⟩
def f_X5_addBlock (M : MM) : Option (Int32 × MM) :=
  bd (f_X1_parse (M 7)) fun r2 m3 => lt1 (gs M 7 m3) fun M4 => (if r2 = (nI 0) then some (((-100 : Int32) - (M4 7 0 3)), M4) else b1 (f_X1_isInRange (M4 7)) fun r8 => (if r8 = (nI 0) then some ((-2 : Int32), M4) else (if (M4 0 0 2) < (nI 8) then bd (f_X2_record M4) fun r12 M13 => bd (f_X4_appendBlock (M13 0) (M13 7)) fun r15 m16 => lt1 (gs M13 0 m16) fun M17 => bd (f_X4_settle (M17 0)) fun r20 m21 => lt1 (gs M17 0 m21) fun M22 => some (r15, M22) else some ((-3 : Int32), M4))))
set_option maxHeartbeats 4000000 in
set_option maxRecDepth 100000 in
theorem c_X5_addBlock {l : Launch} {D : va_G} {cy : Nat → ClassId} {ad : Nat → Nat → Nat} (hcv : CV ad) {M : MM} {r : Int32} {x : MM} (h : f_X5_addBlock M = some (r, x)) : Met l yX5_addBlock (.code yX5_addBlock cX5_addBlock 2 (some .int) :: TB) ({ frames := 5, cells := 0, slots := 0, locals := 124 } : Room) (PW D cy ad M [.ref (ad 8 0)]) (QI D cy ad r x) 0 0 (AD ad) := by
  refine m_in (by decide +kernel) (Nat.le_of_ble_eq_true rfl) ?_
  intro p e s md args below meth c hC hw hS ls hl
  obtain ⟨hx, hb, hr, hml, hown, hts, hK, hlk⟩ := hC
  have hl : lv_has ls 2 [(0, .ref (ad 8 0))] := hl
  unfold f_X5_addBlock at h
  have main : JL p l e ({ frames := 5, cells := 0, slots := 0, locals := 124 } : Room) s md args below meth c D cy ad (MQ below (QI D cy ad r x) args s 0 0 (AD ad)) (M) 2 [(0, .ref (ad 8 0))] 0 [] := by
    intro H locs hw hS ls hl
    refine lv_aload_n hx hb dX5_addBlock_0 rfl (lv_at hl 0 rfl) ?_
    refine r_get hx hb hts hown hK hw (v_mn (by decide)) rfl E_mn inX5 rfl 0 (by decide) k_205 rfl rfl dX5_addBlock_1 ?_
    obtain ⟨r2, m3, y1, h⟩ := t_bd h
    obtain ⟨M4, e5, h⟩ := t_lt h
    refine c_vi hx hb hml hown hts hK hw hS (fun _ h => h) (As := []) (rest := []) (c_X1_parse hcv (M0 := M) (m := M 7) (hm := rfl) y1) cf_X1_parse k_440 rfl rfl ⟨Nat.le_of_ble_eq_true rfl, Nat.le_of_ble_eq_true rfl⟩ (r_recv hK hw (v_tx (by decide)) E_tx rfl) rfl hl.1 rfl (Nat.le_of_ble_eq_true rfl) ⟨Nat.le_refl _, Nat.le_refl _⟩ dX5_addBlock_4 (fun H locs hw hS => ?_)
    rw [← e5] at hw
    refine lv_if_ne (tgt := 21) hx hb dX5_addBlock_7 (by decide) (fun q6 => ?_) (fun q6 => ?_)
    · replace h := t_neg h q6
      refine lv_aload_n hx hb dX5_addBlock_21 rfl (lv_at hl 0 rfl) ?_
      refine r_get hx hb hts hown hK hw (v_mn (by decide)) rfl E_mn inX5 rfl 0 (by decide) k_205 rfl rfl dX5_addBlock_22 ?_
      obtain ⟨r8, y7, h⟩ := t_b1 h
      refine c_vi hx hb hml hown hts hK hw hS (fun _ h => h) (As := []) (rest := []) (c_X1_isInRange hcv (M0 := M4) (m := M4 7) (hm := rfl) y7) cf_X1_isInRange k_460 rfl rfl ⟨Nat.le_of_ble_eq_true rfl, Nat.le_of_ble_eq_true rfl⟩ (r_recv hK hw (v_tx (by decide)) E_tx rfl) rfl hl.1 rfl (Nat.le_of_ble_eq_true rfl) ⟨Nat.le_refl _, Nat.le_refl _⟩ dX5_addBlock_25 (fun H locs hw hS => ?_)
      refine lv_if_ne (tgt := 34) hx hb dX5_addBlock_28 (by decide) (fun q9 => ?_) (fun q9 => ?_)
      · replace h := t_neg h q9
        refine lv_aload_n hx hb dX5_addBlock_34 rfl (lv_at hl 0 rfl) ?_
        refine r_get hx hb hts hown hK hw (v_mn (by decide)) rfl E_mn inX5 rfl 1 (by decide) k_206 rfl rfl dX5_addBlock_35 ?_
        refine r_get hx hb hts hown hK hw (v_st (by decide) (by decide)) rfl (E_st (by decide)) inX4 rfl 2 (by decide) k_165 rfl rfl dX5_addBlock_38 ?_
        refine lv_bipush (v := nI 8) hx hb dX5_addBlock_41 (by decide) ?_
        refine lv_icmp_lt (tgt := 49) hx hb dX5_addBlock_43 (by decide) (fun q10 => ?_) (fun q10 => ?_)
        · replace h := t_pos h q10
          refine lv_aload_n hx hb dX5_addBlock_49 rfl (lv_at hl 0 rfl) ?_
          refine r_get hx hb hts hown hK hw (v_mn (by decide)) rfl E_mn inX5 rfl 4 (by decide) k_209 rfl rfl dX5_addBlock_50 ?_
          refine lv_aload_n hx hb dX5_addBlock_53 rfl (lv_at hl 0 rfl) ?_
          refine r_get hx hb hts hown hK hw (v_mn (by decide)) rfl E_mn inX5 rfl 1 (by decide) k_206 rfl rfl dX5_addBlock_54 ?_
          obtain ⟨r12, M13, y11, h⟩ := t_bd h
          refine c_vv hx hb hml hown hts hK hw hS (fun _ h => h) (As := [.ref (ad 0 0)]) (rest := []) (c_X2_record hcv (M := M4) y11) cf_X2_record k_231 rfl rfl ⟨Nat.le_of_ble_eq_true rfl, Nat.le_of_ble_eq_true rfl⟩ (r_recv hK hw (v_mn (by decide)) E_hi rfl) rfl hl.1 rfl (Nat.le_of_ble_eq_true rfl) ⟨Nat.le_refl _, Nat.le_refl _⟩ dX5_addBlock_57 (fun H locs hw hS => ?_)
          refine lv_aload_n hx hb dX5_addBlock_60 rfl (lv_at hl 0 rfl) ?_
          refine r_get hx hb hts hown hK hw (v_mn (by decide)) rfl E_mn inX5 rfl 1 (by decide) k_206 rfl rfl dX5_addBlock_61 ?_
          refine lv_aload_n hx hb dX5_addBlock_64 rfl (lv_at hl 0 rfl) ?_
          refine r_get hx hb hts hown hK hw (v_mn (by decide)) rfl E_mn inX5 rfl 0 (by decide) k_205 rfl rfl dX5_addBlock_65 ?_
          obtain ⟨r15, m16, y14, h⟩ := t_bd h
          obtain ⟨M17, e18, h⟩ := t_lt h
          refine c_vi hx hb hml hown hts hK hw hS (fun _ h => h) (As := [.ref (ad 7 0)]) (rest := []) (c_X4_appendBlock hcv (g := 0) (hg := (by decide)) (M0 := M13) (m := M13 0) (hm := rfl) (mz := M13 7) (hne := by omega) (hm2 := rfl) y14) cf_X4_appendBlock k_465 rfl rfl ⟨Nat.le_of_ble_eq_true rfl, Nat.le_of_ble_eq_true rfl⟩ (r_recv hK hw (v_st (by decide) (by decide)) (E_st (by decide)) rfl) rfl hl.1 rfl (Nat.le_of_ble_eq_true rfl) ⟨Nat.le_refl _, Nat.le_refl _⟩ dX5_addBlock_68 (fun H locs hw hS => ?_)
          rw [← e18] at hw
          refine lv_istore_n (lv' := [(1, .int r15), (0, .ref (ad 8 0))]) hx hb dX5_addBlock_71 rfl hl (by decide) rfl (fun ls hl => ?_)
          refine lv_aload_n hx hb dX5_addBlock_72 rfl (lv_at hl 1 rfl) ?_
          refine r_get hx hb hts hown hK hw (v_mn (by decide)) rfl E_mn inX5 rfl 1 (by decide) k_206 rfl rfl dX5_addBlock_73 ?_
          obtain ⟨r20, m21, y19, h⟩ := t_bd h
          obtain ⟨M22, e23, h⟩ := t_lt h
          refine c_vv hx hb hml hown hts hK hw hS (fun _ h => h) (As := []) (rest := []) (c_X4_settle hcv (g := 0) (hg := (by decide)) (M0 := M17) (m := M17 0) (hm := rfl) y19) cf_X4_settle k_250 rfl rfl ⟨Nat.le_of_ble_eq_true rfl, Nat.le_of_ble_eq_true rfl⟩ (r_recv hK hw (v_st (by decide) (by decide)) (E_st (by decide)) rfl) rfl hl.1 rfl (Nat.le_of_ble_eq_true rfl) ⟨Nat.le_refl _, Nat.le_refl _⟩ dX5_addBlock_76 (fun H locs hw hS => ?_)
          rw [← e23] at hw
          refine lv_iload_n hx hb dX5_addBlock_79 rfl (lv_at hl 0 rfl) ?_
          have e1 := (t_ret h).1
          have e2 := (t_ret h).2
          exact e_i hx hb hr hlk hw hS e1 e2 dX5_addBlock_80
        · replace h := t_neg h q10
          refine lv_bipush (v := -3) hx hb dX5_addBlock_46 (by decide) ?_
          have e1 := (t_ret h).1
          have e2 := (t_ret h).2
          exact e_i hx hb hr hlk hw hS e1 e2 dX5_addBlock_48
      · replace h := t_pos h q9
        refine lv_bipush (v := -2) hx hb dX5_addBlock_31 (by decide) ?_
        have e1 := (t_ret h).1
        have e2 := (t_ret h).2
        exact e_i hx hb hr hlk hw hS e1 e2 dX5_addBlock_33
    · replace h := t_pos h q6
      refine lv_bipush (v := -100) hx hb dX5_addBlock_10 (by decide) ?_
      refine lv_aload_n hx hb dX5_addBlock_12 rfl (lv_at hl 0 rfl) ?_
      refine r_get hx hb hts hown hK hw (v_mn (by decide)) rfl E_mn inX5 rfl 0 (by decide) k_205 rfl rfl dX5_addBlock_13 ?_
      refine r_get hx hb hts hown hK hw (v_tx (by decide)) rfl E_tx inX1 rfl 3 (by decide) k_28 rfl rfl dX5_addBlock_16 ?_
      refine lv_isub hx hb dX5_addBlock_19 ?_
      have e1 := (t_ret h).1
      have e2 := (t_ret h).2
      exact e_i hx hb hr hlk hw hS e1 e2 dX5_addBlock_20
  exact main _ _ hw hS ls hl

theorem cf_X5_ask : cfV RX5 yX5_ask cX5_ask 7 (some .int) 4 := ⟨⟨k_483, k_484, k_1, k_485⟩, by decide +kernel⟩
def f_X5_ask_L55 (p0 : Int32) (p1 : Int32) (p2 : Int32) (p3 : Int32) (M : MM) (s0 : Int32) : Option (Int32 × MM) :=
  (if s0 = (nI 0) then some ((-2 : Int32), M) else (if (M 0 0 3) < (nI 6) then bd (f_X2_record M) fun r4 M5 => bd (f_X4_appendQuestion (M5 0) p0 p1 p2 p3) fun r7 m8 => lt1 (gs M5 0 m8) fun M9 => bd (f_X4_settle (M9 0)) fun r12 m13 => lt1 (gs M9 0 m13) fun M14 => some (r7, M14) else some ((-3 : Int32), M)))
def f_X5_ask_L54 (p0 : Int32) (p1 : Int32) (p2 : Int32) (p3 : Int32) (M : MM) : Option (Int32 × MM) :=
  f_X5_ask_L55 p0 p1 p2 p3 M (nI 0)
def f_X5_ask_L33 (p0 : Int32) (p1 : Int32) (p2 : Int32) (p3 : Int32) (M : MM) (s2 : Int32) : Option (Int32 × MM) :=
  b1 (f_X5_isFromTo p2 (nI 0) s2) fun r2 => (if r2 = (nI 0) then f_X5_ask_L54 p0 p1 p2 p3 M else b1 (f_X5_isFromTo p3 (nI 0) (nI 99999)) fun r5 => (if r5 = (nI 0) then f_X5_ask_L54 p0 p1 p2 p3 M else f_X5_ask_L55 p0 p1 p2 p3 M (nI 1)))
def f_X5_ask (M : MM) (p0 : Int32) (p1 : Int32) (p2 : Int32) (p3 : Int32) : Option (Int32 × MM) :=
  b1 (f_X5_isFromTo p0 (nI 0) (nI 4)) fun r2 => (if r2 = (nI 0) then f_X5_ask_L54 p0 p1 p2 p3 M else b1 (f_X5_isFromTo p1 (nI 1) (nI 15)) fun r5 => (if r5 = (nI 0) then f_X5_ask_L54 p0 p1 p2 p3 M else (if p0 = (nI 1) then f_X5_ask_L33 p0 p1 p2 p3 M (nI 999) else f_X5_ask_L33 p0 p1 p2 p3 M (nI 0))))
set_option maxHeartbeats 4000000 in
set_option maxRecDepth 100000 in
theorem c_X5_ask {l : Launch} {D : va_G} {cy : Nat → ClassId} {ad : Nat → Nat → Nat} (hcv : CV ad) {M : MM} {p0 p1 p2 p3 : Int32} {r : Int32} {x : MM} (h : f_X5_ask M p0 p1 p2 p3 = some (r, x)) : Met l yX5_ask (.code yX5_ask cX5_ask 7 (some .int) :: TB) ({ frames := 4, cells := 0, slots := 0, locals := 124 } : Room) (PW D cy ad M [.ref (ad 8 0), .int p0, .int p1, .int p2, .int p3]) (QI D cy ad r x) 0 0 (AD ad) := by
  refine m_in (by decide +kernel) (Nat.le_of_ble_eq_true rfl) ?_
  intro p e s md args below meth c hC hw hS ls hl
  obtain ⟨hx, hb, hr, hml, hown, hts, hK, hlk⟩ := hC
  have hl : lv_has ls 7 [(0, .ref (ad 8 0)), (1, .int p0), (2, .int p1), (3, .int p2), (4, .int p3)] := hl
  have L55 : ∀ (M : MM) (s0 : Int32), f_X5_ask_L55 p0 p1 p2 p3 M s0 = some (r, x) → JL p l e ({ frames := 4, cells := 0, slots := 0, locals := 124 } : Room) s md args below meth c D cy ad (MQ below (QI D cy ad r x) args s 0 0 (AD ad)) (M) 7 [(0, .ref (ad 8 0)), (1, .int p0), (2, .int p1), (3, .int p2), (4, .int p3)] 55 [.int s0] := by
    intro M s0 h H locs hw hS ls hl
    unfold f_X5_ask_L55 at h
    refine lv_istore (lv' := [(5, .int s0), (0, .ref (ad 8 0)), (1, .int p0), (2, .int p1), (3, .int p2), (4, .int p3)]) hx hb dX5_ask_55 hl (by decide) rfl (fun ls hl => ?_)
    refine lv_iload hx hb dX5_ask_57 (lv_at hl 0 rfl) ?_
    refine lv_if_ne (tgt := 65) hx hb dX5_ask_59 (by decide) (fun q1 => ?_) (fun q1 => ?_)
    · replace h := t_neg h q1
      refine lv_aload_n hx hb dX5_ask_65 rfl (lv_at hl 1 rfl) ?_
      refine r_get hx hb hts hown hK hw (v_mn (by decide)) rfl E_mn inX5 rfl 1 (by decide) k_206 rfl rfl dX5_ask_66 ?_
      refine r_get hx hb hts hown hK hw (v_st (by decide) (by decide)) rfl (E_st (by decide)) inX4 rfl 3 (by decide) k_167 rfl rfl dX5_ask_69 ?_
      refine lv_bipush (v := nI 6) hx hb dX5_ask_72 (by decide) ?_
      refine lv_icmp_lt (tgt := 80) hx hb dX5_ask_74 (by decide) (fun q2 => ?_) (fun q2 => ?_)
      · replace h := t_pos h q2
        refine lv_aload_n hx hb dX5_ask_80 rfl (lv_at hl 1 rfl) ?_
        refine r_get hx hb hts hown hK hw (v_mn (by decide)) rfl E_mn inX5 rfl 4 (by decide) k_209 rfl rfl dX5_ask_81 ?_
        refine lv_aload_n hx hb dX5_ask_84 rfl (lv_at hl 1 rfl) ?_
        refine r_get hx hb hts hown hK hw (v_mn (by decide)) rfl E_mn inX5 rfl 1 (by decide) k_206 rfl rfl dX5_ask_85 ?_
        obtain ⟨r4, M5, y3, h⟩ := t_bd h
        refine c_vv hx hb hml hown hts hK hw hS (fun _ h => h) (As := [.ref (ad 0 0)]) (rest := []) (c_X2_record hcv (M := M) y3) cf_X2_record k_231 rfl rfl ⟨Nat.le_of_ble_eq_true rfl, Nat.le_of_ble_eq_true rfl⟩ (r_recv hK hw (v_mn (by decide)) E_hi rfl) rfl hl.1 rfl (Nat.le_of_ble_eq_true rfl) ⟨Nat.le_refl _, Nat.le_refl _⟩ dX5_ask_88 (fun H locs hw hS => ?_)
        refine lv_aload_n hx hb dX5_ask_91 rfl (lv_at hl 1 rfl) ?_
        refine r_get hx hb hts hown hK hw (v_mn (by decide)) rfl E_mn inX5 rfl 1 (by decide) k_206 rfl rfl dX5_ask_92 ?_
        refine lv_iload_n hx hb dX5_ask_95 rfl (lv_at hl 2 rfl) ?_
        refine lv_iload_n hx hb dX5_ask_96 rfl (lv_at hl 3 rfl) ?_
        refine lv_iload_n hx hb dX5_ask_97 rfl (lv_at hl 4 rfl) ?_
        refine lv_iload hx hb dX5_ask_98 (lv_at hl 5 rfl) ?_
        obtain ⟨r7, m8, y6, h⟩ := t_bd h
        obtain ⟨M9, e10, h⟩ := t_lt h
        refine c_vi hx hb hml hown hts hK hw hS (fun _ h => h) (As := [.int p0, .int p1, .int p2, .int p3]) (rest := []) (c_X4_appendQuestion hcv (g := 0) (hg := (by decide)) (M0 := M5) (m := M5 0) (hm := rfl) y6) cf_X4_appendQuestion k_487 rfl rfl ⟨Nat.le_of_ble_eq_true rfl, Nat.le_of_ble_eq_true rfl⟩ (r_recv hK hw (v_st (by decide) (by decide)) (E_st (by decide)) rfl) rfl hl.1 rfl (Nat.le_of_ble_eq_true rfl) ⟨Nat.le_refl _, Nat.le_refl _⟩ dX5_ask_100 (fun H locs hw hS => ?_)
        rw [← e10] at hw
        refine lv_istore (lv' := [(6, .int r7), (5, .int s0), (0, .ref (ad 8 0)), (1, .int p0), (2, .int p1), (3, .int p2), (4, .int p3)]) hx hb dX5_ask_103 hl (by decide) rfl (fun ls hl => ?_)
        refine lv_aload_n hx hb dX5_ask_105 rfl (lv_at hl 2 rfl) ?_
        refine r_get hx hb hts hown hK hw (v_mn (by decide)) rfl E_mn inX5 rfl 1 (by decide) k_206 rfl rfl dX5_ask_106 ?_
        obtain ⟨r12, m13, y11, h⟩ := t_bd h
        obtain ⟨M14, e15, h⟩ := t_lt h
        refine c_vv hx hb hml hown hts hK hw hS (fun _ h => h) (As := []) (rest := []) (c_X4_settle hcv (g := 0) (hg := (by decide)) (M0 := M9) (m := M9 0) (hm := rfl) y11) cf_X4_settle k_250 rfl rfl ⟨Nat.le_of_ble_eq_true rfl, Nat.le_of_ble_eq_true rfl⟩ (r_recv hK hw (v_st (by decide) (by decide)) (E_st (by decide)) rfl) rfl hl.1 rfl (Nat.le_of_ble_eq_true rfl) ⟨Nat.le_refl _, Nat.le_refl _⟩ dX5_ask_109 (fun H locs hw hS => ?_)
        rw [← e15] at hw
        refine lv_iload hx hb dX5_ask_112 (lv_at hl 0 rfl) ?_
        have e1 := (t_ret h).1
        have e2 := (t_ret h).2
        exact e_i hx hb hr hlk hw hS e1 e2 dX5_ask_114
      · replace h := t_neg h q2
        refine lv_bipush (v := -3) hx hb dX5_ask_77 (by decide) ?_
        have e1 := (t_ret h).1
        have e2 := (t_ret h).2
        exact e_i hx hb hr hlk hw hS e1 e2 dX5_ask_79
    · replace h := t_pos h q1
      refine lv_bipush (v := -2) hx hb dX5_ask_62 (by decide) ?_
      have e1 := (t_ret h).1
      have e2 := (t_ret h).2
      exact e_i hx hb hr hlk hw hS e1 e2 dX5_ask_64
  have L54 : ∀ (M : MM), f_X5_ask_L54 p0 p1 p2 p3 M = some (r, x) → JL p l e ({ frames := 4, cells := 0, slots := 0, locals := 124 } : Room) s md args below meth c D cy ad (MQ below (QI D cy ad r x) args s 0 0 (AD ad)) (M) 7 [(0, .ref (ad 8 0)), (1, .int p0), (2, .int p1), (3, .int p2), (4, .int p3)] 54 [] := by
    intro M h H locs hw hS ls hl
    unfold f_X5_ask_L54 at h
    refine lv_iconst (v := nI 0) hx hb dX5_ask_54 (by decide) ?_
    exact L55 M (nI 0) h H locs hw hS ls (lv_sub hl [0, 1, 2, 3, 4] rfl)
  have L33 : ∀ (M : MM) (s2 : Int32), f_X5_ask_L33 p0 p1 p2 p3 M s2 = some (r, x) → JL p l e ({ frames := 4, cells := 0, slots := 0, locals := 124 } : Room) s md args below meth c D cy ad (MQ below (QI D cy ad r x) args s 0 0 (AD ad)) (M) 7 [(0, .ref (ad 8 0)), (1, .int p0), (2, .int p1), (3, .int p2), (4, .int p3)] 33 [.int s2, .int (nI 0), .int p2] := by
    intro M s2 h H locs hw hS ls hl
    unfold f_X5_ask_L33 at h
    obtain ⟨r2, y1, h⟩ := t_b1 h
    refine c_si hx hb hml hown hts hK hw hS (fun _ h => h) (As := [.int p2, .int (nI 0), .int s2]) (rest := []) (c_X5_isFromTo hcv (M0 := M) y1) cf_X5_isFromTo k_228 rfl rfl ⟨Nat.le_of_ble_eq_true rfl, Nat.le_of_ble_eq_true rfl⟩ rfl hl.1 rfl (Nat.le_of_ble_eq_true rfl) ⟨Nat.le_refl _, Nat.le_refl _⟩ dX5_ask_33 (fun H locs hw hS => ?_)
    refine lv_if_eq (tgt := 54) hx hb dX5_ask_36 (by decide) (fun q3 => ?_) (fun q3 => ?_)
    · replace h := t_pos h q3
      exact L54 M h H locs hw hS ls (lv_sub hl [0, 1, 2, 3, 4] rfl)
    · replace h := t_neg h q3
      refine lv_iload hx hb dX5_ask_39 (lv_at hl 4 rfl) ?_
      refine lv_iconst (v := nI 0) hx hb dX5_ask_41 (by decide) ?_
      refine lv_ldc (v := nI 99999) hx hb hown (hts _ k_486) dX5_ask_42 ?_
      obtain ⟨r5, y4, h⟩ := t_b1 h
      refine c_si hx hb hml hown hts hK hw hS (fun _ h => h) (As := [.int p3, .int (nI 0), .int (nI 99999)]) (rest := []) (c_X5_isFromTo hcv (M0 := M) y4) cf_X5_isFromTo k_228 rfl rfl ⟨Nat.le_of_ble_eq_true rfl, Nat.le_of_ble_eq_true rfl⟩ rfl hl.1 rfl (Nat.le_of_ble_eq_true rfl) ⟨Nat.le_refl _, Nat.le_refl _⟩ dX5_ask_44 (fun H locs hw hS => ?_)
      refine lv_if_eq (tgt := 54) hx hb dX5_ask_47 (by decide) (fun q6 => ?_) (fun q6 => ?_)
      · replace h := t_pos h q6
        exact L54 M h H locs hw hS ls (lv_sub hl [0, 1, 2, 3, 4] rfl)
      · replace h := t_neg h q6
        refine lv_iconst (v := nI 1) hx hb dX5_ask_50 (by decide) ?_
        refine lv_goto (tgt := 55) hx hb dX5_ask_51 (by decide) ?_
        exact L55 M (nI 1) h H locs hw hS ls (lv_sub hl [0, 1, 2, 3, 4] rfl)
  unfold f_X5_ask at h
  have main : JL p l e ({ frames := 4, cells := 0, slots := 0, locals := 124 } : Room) s md args below meth c D cy ad (MQ below (QI D cy ad r x) args s 0 0 (AD ad)) (M) 7 [(0, .ref (ad 8 0)), (1, .int p0), (2, .int p1), (3, .int p2), (4, .int p3)] 0 [] := by
    intro H locs hw hS ls hl
    refine lv_iload_n hx hb dX5_ask_0 rfl (lv_at hl 1 rfl) ?_
    refine lv_iconst (v := nI 0) hx hb dX5_ask_1 (by decide) ?_
    refine lv_iconst (v := nI 4) hx hb dX5_ask_2 (by decide) ?_
    obtain ⟨r2, y1, h⟩ := t_b1 h
    refine c_si hx hb hml hown hts hK hw hS (fun _ h => h) (As := [.int p0, .int (nI 0), .int (nI 4)]) (rest := []) (c_X5_isFromTo hcv (M0 := M) y1) cf_X5_isFromTo k_228 rfl rfl ⟨Nat.le_of_ble_eq_true rfl, Nat.le_of_ble_eq_true rfl⟩ rfl hl.1 rfl (Nat.le_of_ble_eq_true rfl) ⟨Nat.le_refl _, Nat.le_refl _⟩ dX5_ask_3 (fun H locs hw hS => ?_)
    refine lv_if_eq (tgt := 54) hx hb dX5_ask_6 (by decide) (fun q3 => ?_) (fun q3 => ?_)
    · replace h := t_pos h q3
      exact L54 M h H locs hw hS ls (lv_sub hl [0, 1, 2, 3, 4] rfl)
    · replace h := t_neg h q3
      refine lv_iload_n hx hb dX5_ask_9 rfl (lv_at hl 2 rfl) ?_
      refine lv_iconst (v := nI 1) hx hb dX5_ask_10 (by decide) ?_
      refine lv_bipush (v := nI 15) hx hb dX5_ask_11 (by decide) ?_
      obtain ⟨r5, y4, h⟩ := t_b1 h
      refine c_si hx hb hml hown hts hK hw hS (fun _ h => h) (As := [.int p1, .int (nI 1), .int (nI 15)]) (rest := []) (c_X5_isFromTo hcv (M0 := M) y4) cf_X5_isFromTo k_228 rfl rfl ⟨Nat.le_of_ble_eq_true rfl, Nat.le_of_ble_eq_true rfl⟩ rfl hl.1 rfl (Nat.le_of_ble_eq_true rfl) ⟨Nat.le_refl _, Nat.le_refl _⟩ dX5_ask_13 (fun H locs hw hS => ?_)
      refine lv_if_eq (tgt := 54) hx hb dX5_ask_16 (by decide) (fun q6 => ?_) (fun q6 => ?_)
      · replace h := t_pos h q6
        exact L54 M h H locs hw hS ls (lv_sub hl [0, 1, 2, 3, 4] rfl)
      · replace h := t_neg h q6
        refine lv_iload_n hx hb dX5_ask_19 rfl (lv_at hl 3 rfl) ?_
        refine lv_iconst (v := nI 0) hx hb dX5_ask_20 (by decide) ?_
        refine lv_iload_n hx hb dX5_ask_21 rfl (lv_at hl 1 rfl) ?_
        refine lv_iconst (v := nI 1) hx hb dX5_ask_22 (by decide) ?_
        refine lv_icmp_ne (tgt := 32) hx hb dX5_ask_23 (by decide) (fun q7 => ?_) (fun q7 => ?_)
        · replace h := t_neg h q7
          refine lv_iconst (v := nI 0) hx hb dX5_ask_32 (by decide) ?_
          exact L33 M (nI 0) h H locs hw hS ls (lv_sub hl [0, 1, 2, 3, 4] rfl)
        · replace h := t_pos h q7
          refine lv_sipush (v := nI 999) hx hb dX5_ask_26 (by decide) ?_
          refine lv_goto (tgt := 33) hx hb dX5_ask_29 (by decide) ?_
          exact L33 M (nI 999) h H locs hw hS ls (lv_sub hl [0, 1, 2, 3, 4] rfl)
  exact main _ _ hw hS ls hl

theorem cf_X5_setPlan : cfV RX5 yX5_setPlan cX5_setPlan 3 (some .int) 1 := ⟨⟨k_225, k_226, k_1, k_227⟩, by decide +kernel⟩
def f_X5_setPlan (M : MM) (p0 : Int32) : Option (Int32 × MM) :=
  b1 (f_X5_isFromTo p0 (nI 0) (nI 2)) fun r2 => (if r2 = (nI 0) then some ((-2 : Int32), M) else (if (M 0 0 4) = p0 then some ((-5 : Int32), M) else bd (f_X2_record M) fun r6 M7 => lt1 (gs M7 0 (up (M7 0) 0 4 p0)) fun M9 => bd (f_X4_settle (M9 0)) fun r11 m12 => lt1 (gs M9 0 m12) fun M13 => some ((M 0 0 4), M13)))
set_option maxHeartbeats 4000000 in
set_option maxRecDepth 100000 in
theorem c_X5_setPlan {l : Launch} {D : va_G} {cy : Nat → ClassId} {ad : Nat → Nat → Nat} (hcv : CV ad) {M : MM} {p0 : Int32} {r : Int32} {x : MM} (h : f_X5_setPlan M p0 = some (r, x)) : Met l yX5_setPlan (.code yX5_setPlan cX5_setPlan 3 (some .int) :: TB) ({ frames := 4, cells := 0, slots := 0, locals := 124 } : Room) (PW D cy ad M [.ref (ad 8 0), .int p0]) (QI D cy ad r x) 0 0 (AD ad) := by
  refine m_in (by decide +kernel) (Nat.le_of_ble_eq_true rfl) ?_
  intro p e s md args below meth c hC hw hS ls hl
  obtain ⟨hx, hb, hr, hml, hown, hts, hK, hlk⟩ := hC
  have hl : lv_has ls 3 [(0, .ref (ad 8 0)), (1, .int p0)] := hl
  unfold f_X5_setPlan at h
  have main : JL p l e ({ frames := 4, cells := 0, slots := 0, locals := 124 } : Room) s md args below meth c D cy ad (MQ below (QI D cy ad r x) args s 0 0 (AD ad)) (M) 3 [(0, .ref (ad 8 0)), (1, .int p0)] 0 [] := by
    intro H locs hw hS ls hl
    refine lv_iload_n hx hb dX5_setPlan_0 rfl (lv_at hl 1 rfl) ?_
    refine lv_iconst (v := nI 0) hx hb dX5_setPlan_1 (by decide) ?_
    refine lv_iconst (v := nI 2) hx hb dX5_setPlan_2 (by decide) ?_
    obtain ⟨r2, y1, h⟩ := t_b1 h
    refine c_si hx hb hml hown hts hK hw hS (fun _ h => h) (As := [.int p0, .int (nI 0), .int (nI 2)]) (rest := []) (c_X5_isFromTo hcv (M0 := M) y1) cf_X5_isFromTo k_228 rfl rfl ⟨Nat.le_of_ble_eq_true rfl, Nat.le_of_ble_eq_true rfl⟩ rfl hl.1 rfl (Nat.le_of_ble_eq_true rfl) ⟨Nat.le_refl _, Nat.le_refl _⟩ dX5_setPlan_3 (fun H locs hw hS => ?_)
    refine lv_if_ne (tgt := 12) hx hb dX5_setPlan_6 (by decide) (fun q3 => ?_) (fun q3 => ?_)
    · replace h := t_neg h q3
      refine lv_aload_n hx hb dX5_setPlan_12 rfl (lv_at hl 0 rfl) ?_
      refine r_get hx hb hts hown hK hw (v_mn (by decide)) rfl E_mn inX5 rfl 1 (by decide) k_206 rfl rfl dX5_setPlan_13 ?_
      refine r_get hx hb hts hown hK hw (v_st (by decide) (by decide)) rfl (E_st (by decide)) inX4 rfl 4 (by decide) k_169 rfl rfl dX5_setPlan_16 ?_
      refine lv_istore_n (lv' := [(2, .int (M 0 0 4)), (0, .ref (ad 8 0)), (1, .int p0)]) hx hb dX5_setPlan_19 rfl hl (by decide) rfl (fun ls hl => ?_)
      refine lv_iload_n hx hb dX5_setPlan_20 rfl (lv_at hl 0 rfl) ?_
      refine lv_iload_n hx hb dX5_setPlan_21 rfl (lv_at hl 2 rfl) ?_
      refine lv_icmp_ne (tgt := 28) hx hb dX5_setPlan_22 (by decide) (fun q4 => ?_) (fun q4 => ?_)
      · replace h := t_neg h q4
        refine lv_aload_n hx hb dX5_setPlan_28 rfl (lv_at hl 1 rfl) ?_
        refine r_get hx hb hts hown hK hw (v_mn (by decide)) rfl E_mn inX5 rfl 4 (by decide) k_209 rfl rfl dX5_setPlan_29 ?_
        refine lv_aload_n hx hb dX5_setPlan_32 rfl (lv_at hl 1 rfl) ?_
        refine r_get hx hb hts hown hK hw (v_mn (by decide)) rfl E_mn inX5 rfl 1 (by decide) k_206 rfl rfl dX5_setPlan_33 ?_
        obtain ⟨r6, M7, y5, h⟩ := t_bd h
        refine c_vv hx hb hml hown hts hK hw hS (fun _ h => h) (As := [.ref (ad 0 0)]) (rest := []) (c_X2_record hcv (M := M) y5) cf_X2_record k_231 rfl rfl ⟨Nat.le_of_ble_eq_true rfl, Nat.le_of_ble_eq_true rfl⟩ (r_recv hK hw (v_mn (by decide)) E_hi rfl) rfl hl.1 rfl (Nat.le_of_ble_eq_true rfl) ⟨Nat.le_refl _, Nat.le_refl _⟩ dX5_setPlan_36 (fun H locs hw hS => ?_)
        refine lv_aload_n hx hb dX5_setPlan_39 rfl (lv_at hl 1 rfl) ?_
        refine r_get hx hb hts hown hK hw (v_mn (by decide)) rfl E_mn inX5 rfl 1 (by decide) k_206 rfl rfl dX5_setPlan_40 ?_
        refine lv_iload_n hx hb dX5_setPlan_43 rfl (lv_at hl 2 rfl) ?_
        obtain ⟨M9, e8, h⟩ := t_lt h
        refine r_put hx hb hts hown hK hcv hw hS (v_st (by decide) (by decide)) rfl (E_st (by decide)) inX4 rfl tyX4 tyX4_ok nmX4 4 (by decide) k_169 rfl rfl rfl rfl (Nat.le_of_ble_eq_true rfl) (E_st (by decide)) e8.symm dX5_setPlan_44 (fun H locs hw hS => ?_)
        refine lv_aload_n hx hb dX5_setPlan_47 rfl (lv_at hl 1 rfl) ?_
        refine r_get hx hb hts hown hK hw (v_mn (by decide)) rfl E_mn inX5 rfl 1 (by decide) k_206 rfl rfl dX5_setPlan_48 ?_
        obtain ⟨r11, m12, y10, h⟩ := t_bd h
        obtain ⟨M13, e14, h⟩ := t_lt h
        refine c_vv hx hb hml hown hts hK hw hS (fun _ h => h) (As := []) (rest := []) (c_X4_settle hcv (g := 0) (hg := (by decide)) (M0 := M9) (m := M9 0) (hm := rfl) y10) cf_X4_settle k_250 rfl rfl ⟨Nat.le_of_ble_eq_true rfl, Nat.le_of_ble_eq_true rfl⟩ (r_recv hK hw (v_st (by decide) (by decide)) (E_st (by decide)) rfl) rfl hl.1 rfl (Nat.le_of_ble_eq_true rfl) ⟨Nat.le_refl _, Nat.le_refl _⟩ dX5_setPlan_51 (fun H locs hw hS => ?_)
        rw [← e14] at hw
        refine lv_iload_n hx hb dX5_setPlan_54 rfl (lv_at hl 0 rfl) ?_
        have e1 := (t_ret h).1
        have e2 := (t_ret h).2
        exact e_i hx hb hr hlk hw hS e1 e2 dX5_setPlan_55
      · replace h := t_pos h q4
        refine lv_bipush (v := -5) hx hb dX5_setPlan_25 (by decide) ?_
        have e1 := (t_ret h).1
        have e2 := (t_ret h).2
        exact e_i hx hb hr hlk hw hS e1 e2 dX5_setPlan_27
    · replace h := t_pos h q3
      refine lv_bipush (v := -2) hx hb dX5_setPlan_9 (by decide) ?_
      have e1 := (t_ret h).1
      have e2 := (t_ret h).2
      exact e_i hx hb hr hlk hw hS e1 e2 dX5_setPlan_11
  exact main _ _ hw hS ls hl

theorem cf_X5_read : cfV RX5 yX5_read cX5_read 4 (some .int) 1 := ⟨⟨k_294, k_295, k_1, k_296⟩, by decide +kernel⟩
def f_X5_read_L44 (p0 : Int32) : Nat → MM → Int32 → Int32 → Option (Int32 × MM)
  | 0, _, _, _ => none
  | n + 1, M, x2, x3 => (if p0 ≤ x3 then some (x2, M) else bd (f_X4_readByPlan (M 0)) fun r3 m4 => lt1 (gs M 0 m4) fun M5 => (if r3 = (nI 0) then some (x2, M5) else f_X5_read_L44 p0 n M5 (x2 + (nI 1)) (x3 + (nI 1))))
def f_X5_read (M : MM) (p0 : Int32) : Option (Int32 × MM) :=
  b1 (f_X5_isFromTo p0 (nI 1) (nI 128)) fun r2 => (if r2 = (nI 0) then some ((-2 : Int32), M) else b1 (f_X4_nextBlock (M 0)) fun r5 => (if r5 = (-5 : Int32) then some ((-5 : Int32), M) else bd (f_X2_record M) fun r8 M9 => f_X5_read_L44 p0 FU M9 (nI 0) (nI 0)))
set_option maxHeartbeats 4000000 in
set_option maxRecDepth 100000 in
theorem c_X5_read {l : Launch} {D : va_G} {cy : Nat → ClassId} {ad : Nat → Nat → Nat} (hcv : CV ad) {M : MM} {p0 : Int32} {r : Int32} {x : MM} (h : f_X5_read M p0 = some (r, x)) : Met l yX5_read (.code yX5_read cX5_read 4 (some .int) :: TB) ({ frames := 5, cells := 0, slots := 0, locals := 124 } : Room) (PW D cy ad M [.ref (ad 8 0), .int p0]) (QI D cy ad r x) 0 0 (AD ad) := by
  refine m_in (by decide +kernel) (Nat.le_of_ble_eq_true rfl) ?_
  intro p e s md args below meth c hC hw hS ls hl
  obtain ⟨hx, hb, hr, hml, hown, hts, hK, hlk⟩ := hC
  have hl : lv_has ls 4 [(0, .ref (ad 8 0)), (1, .int p0)] := hl
  have L44 : ∀ (n : Nat), ∀ (M : MM) (x2 : Int32) (x3 : Int32), f_X5_read_L44 p0 n M x2 x3 = some (r, x) → JL p l e ({ frames := 5, cells := 0, slots := 0, locals := 124 } : Room) s md args below meth c D cy ad (MQ below (QI D cy ad r x) args s 0 0 (AD ad)) (M) 4 [(0, .ref (ad 8 0)), (1, .int p0), (2, .int x2), (3, .int x3)] 44 [] := by
    intro n
    induction n with
    | zero =>
      intro M x2 x3 h
      cases h
    | succ n ih =>
      intro M x2 x3 h H locs hw hS ls hl
      rw [f_X5_read_L44.eq_2] at h
      refine lv_iload_n hx hb dX5_read_44 rfl (lv_at hl 3 rfl) ?_
      refine lv_iload_n hx hb dX5_read_45 rfl (lv_at hl 1 rfl) ?_
      refine lv_icmp_ge (tgt := 68) hx hb dX5_read_46 (by decide) (fun q1 => ?_) (fun q1 => ?_)
      · replace h := t_pos h q1
        refine lv_iload_n hx hb dX5_read_68 rfl (lv_at hl 2 rfl) ?_
        have e1 := (t_ret h).1
        have e2 := (t_ret h).2
        exact e_i hx hb hr hlk hw hS e1 e2 dX5_read_69
      · replace h := t_neg h q1
        refine lv_aload_n hx hb dX5_read_49 rfl (lv_at hl 0 rfl) ?_
        refine r_get hx hb hts hown hK hw (v_mn (by decide)) rfl E_mn inX5 rfl 1 (by decide) k_206 rfl rfl dX5_read_50 ?_
        obtain ⟨r3, m4, y2, h⟩ := t_bd h
        obtain ⟨M5, e6, h⟩ := t_lt h
        refine c_vi hx hb hml hown hts hK hw hS (fun _ h => h) (As := []) (rest := []) (c_X4_readByPlan hcv (g := 0) (hg := (by decide)) (M0 := M) (m := M 0) (hm := rfl) y2) cf_X4_readByPlan k_318 rfl rfl ⟨Nat.le_of_ble_eq_true rfl, Nat.le_of_ble_eq_true rfl⟩ (r_recv hK hw (v_st (by decide) (by decide)) (E_st (by decide)) rfl) rfl hl.1 rfl (Nat.le_of_ble_eq_true rfl) ⟨Nat.le_refl _, Nat.le_refl _⟩ dX5_read_53 (fun H locs hw hS => ?_)
        rw [← e6] at hw
        refine lv_if_eq (tgt := 68) hx hb dX5_read_56 (by decide) (fun q7 => ?_) (fun q7 => ?_)
        · replace h := t_pos h q7
          refine lv_iload_n hx hb dX5_read_68 rfl (lv_at hl 2 rfl) ?_
          have e1 := (t_ret h).1
          have e2 := (t_ret h).2
          exact e_i hx hb hr hlk hw hS e1 e2 dX5_read_69
        · replace h := t_neg h q7
          refine lv_iinc (v := (x2 + (nI 1))) (lv' := [(2, .int (x2 + (nI 1))), (0, .ref (ad 8 0)), (1, .int p0), (3, .int x3)]) hx hb dX5_read_59 hl (k := 2) rfl rfl (by decide) rfl (fun ls hl => ?_)
          refine lv_iinc (v := (x3 + (nI 1))) (lv' := [(3, .int (x3 + (nI 1))), (2, .int (x2 + (nI 1))), (0, .ref (ad 8 0)), (1, .int p0)]) hx hb dX5_read_62 hl (k := 3) rfl rfl (by decide) rfl (fun ls hl => ?_)
          refine lv_goto (tgt := 44) hx hb dX5_read_65 (by decide) ?_
          exact ih M5 (x2 + (nI 1)) (x3 + (nI 1)) h H locs hw hS ls (lv_sub hl [2, 3, 1, 0] rfl)
  unfold f_X5_read at h
  have main : JL p l e ({ frames := 5, cells := 0, slots := 0, locals := 124 } : Room) s md args below meth c D cy ad (MQ below (QI D cy ad r x) args s 0 0 (AD ad)) (M) 4 [(0, .ref (ad 8 0)), (1, .int p0)] 0 [] := by
    intro H locs hw hS ls hl
    refine lv_iload_n hx hb dX5_read_0 rfl (lv_at hl 1 rfl) ?_
    refine lv_iconst (v := nI 1) hx hb dX5_read_1 (by decide) ?_
    refine lv_sipush (v := nI 128) hx hb dX5_read_2 (by decide) ?_
    obtain ⟨r2, y1, h⟩ := t_b1 h
    refine c_si hx hb hml hown hts hK hw hS (fun _ h => h) (As := [.int p0, .int (nI 1), .int (nI 128)]) (rest := []) (c_X5_isFromTo hcv (M0 := M) y1) cf_X5_isFromTo k_228 rfl rfl ⟨Nat.le_of_ble_eq_true rfl, Nat.le_of_ble_eq_true rfl⟩ rfl hl.1 rfl (Nat.le_of_ble_eq_true rfl) ⟨Nat.le_refl _, Nat.le_refl _⟩ dX5_read_5 (fun H locs hw hS => ?_)
    refine lv_if_ne (tgt := 14) hx hb dX5_read_8 (by decide) (fun q3 => ?_) (fun q3 => ?_)
    · replace h := t_neg h q3
      refine lv_aload_n hx hb dX5_read_14 rfl (lv_at hl 0 rfl) ?_
      refine r_get hx hb hts hown hK hw (v_mn (by decide)) rfl E_mn inX5 rfl 1 (by decide) k_206 rfl rfl dX5_read_15 ?_
      obtain ⟨r5, y4, h⟩ := t_b1 h
      refine c_vi hx hb hml hown hts hK hw hS (fun _ h => h) (As := []) (rest := []) (c_X4_nextBlock hcv (g := 0) (hg := (by decide)) (M0 := M) (m := M 0) (hm := rfl) y4) cf_X4_nextBlock k_297 rfl rfl ⟨Nat.le_of_ble_eq_true rfl, Nat.le_of_ble_eq_true rfl⟩ (r_recv hK hw (v_st (by decide) (by decide)) (E_st (by decide)) rfl) rfl hl.1 rfl (Nat.le_of_ble_eq_true rfl) ⟨Nat.le_refl _, Nat.le_refl _⟩ dX5_read_18 (fun H locs hw hS => ?_)
      refine lv_bipush (v := -5) hx hb dX5_read_21 (by decide) ?_
      refine lv_icmp_ne (tgt := 29) hx hb dX5_read_23 (by decide) (fun q6 => ?_) (fun q6 => ?_)
      · replace h := t_neg h q6
        refine lv_aload_n hx hb dX5_read_29 rfl (lv_at hl 0 rfl) ?_
        refine r_get hx hb hts hown hK hw (v_mn (by decide)) rfl E_mn inX5 rfl 4 (by decide) k_209 rfl rfl dX5_read_30 ?_
        refine lv_aload_n hx hb dX5_read_33 rfl (lv_at hl 0 rfl) ?_
        refine r_get hx hb hts hown hK hw (v_mn (by decide)) rfl E_mn inX5 rfl 1 (by decide) k_206 rfl rfl dX5_read_34 ?_
        obtain ⟨r8, M9, y7, h⟩ := t_bd h
        refine c_vv hx hb hml hown hts hK hw hS (fun _ h => h) (As := [.ref (ad 0 0)]) (rest := []) (c_X2_record hcv (M := M) y7) cf_X2_record k_231 rfl rfl ⟨Nat.le_of_ble_eq_true rfl, Nat.le_of_ble_eq_true rfl⟩ (r_recv hK hw (v_mn (by decide)) E_hi rfl) rfl hl.1 rfl (Nat.le_of_ble_eq_true rfl) ⟨Nat.le_refl _, Nat.le_refl _⟩ dX5_read_37 (fun H locs hw hS => ?_)
        refine lv_iconst (v := nI 0) hx hb dX5_read_40 (by decide) ?_
        refine lv_istore_n (lv' := [(2, .int (nI 0)), (0, .ref (ad 8 0)), (1, .int p0)]) hx hb dX5_read_41 rfl hl (by decide) rfl (fun ls hl => ?_)
        refine lv_iconst (v := nI 0) hx hb dX5_read_42 (by decide) ?_
        refine lv_istore_n (lv' := [(3, .int (nI 0)), (2, .int (nI 0)), (0, .ref (ad 8 0)), (1, .int p0)]) hx hb dX5_read_43 rfl hl (by decide) rfl (fun ls hl => ?_)
        exact L44 FU M9 (nI 0) (nI 0) h H locs hw hS ls (lv_sub hl [2, 3, 1, 0] rfl)
      · replace h := t_pos h q6
        refine lv_bipush (v := -5) hx hb dX5_read_26 (by decide) ?_
        have e1 := (t_ret h).1
        have e2 := (t_ret h).2
        exact e_i hx hb hr hlk hw hS e1 e2 dX5_read_28
    · replace h := t_pos h q3
      refine lv_bipush (v := -2) hx hb dX5_read_11 (by decide) ?_
      have e1 := (t_ret h).1
      have e2 := (t_ret h).2
      exact e_i hx hb hr hlk hw hS e1 e2 dX5_read_13
  exact main _ _ hw hS ls hl

theorem cf_X5_readOn : cfV RX5 yX5_readOn cX5_readOn 1 (some .int) 0 := ⟨⟨k_334, k_335, k_1, k_336⟩, by decide +kernel⟩
def f_X5_readOn (M : MM) : Option (Int32 × MM) :=
  b1 (f_X4_openQuestions (M 0)) fun r2 => (if r2 = (nI 0) then some ((-4 : Int32), M) else b1 (f_X4_nextBlock (M 0)) fun r5 => (if r5 = (-5 : Int32) then some ((-5 : Int32), M) else bd (f_X2_record M) fun r8 M9 => bd (f_X4_readWhileOpen (M9 0)) fun r11 m12 => lt1 (gs M9 0 m12) fun M13 => some (r11, M13)))
set_option maxHeartbeats 4000000 in
set_option maxRecDepth 100000 in
theorem c_X5_readOn {l : Launch} {D : va_G} {cy : Nat → ClassId} {ad : Nat → Nat → Nat} (hcv : CV ad) {M : MM} {r : Int32} {x : MM} (h : f_X5_readOn M = some (r, x)) : Met l yX5_readOn (.code yX5_readOn cX5_readOn 1 (some .int) :: TB) ({ frames := 6, cells := 0, slots := 0, locals := 141 } : Room) (PW D cy ad M [.ref (ad 8 0)]) (QI D cy ad r x) 0 0 (AD ad) := by
  refine m_in (by decide +kernel) (Nat.le_of_ble_eq_true rfl) ?_
  intro p e s md args below meth c hC hw hS ls hl
  obtain ⟨hx, hb, hr, hml, hown, hts, hK, hlk⟩ := hC
  have hl : lv_has ls 1 [(0, .ref (ad 8 0))] := hl
  unfold f_X5_readOn at h
  have main : JL p l e ({ frames := 6, cells := 0, slots := 0, locals := 141 } : Room) s md args below meth c D cy ad (MQ below (QI D cy ad r x) args s 0 0 (AD ad)) (M) 1 [(0, .ref (ad 8 0))] 0 [] := by
    intro H locs hw hS ls hl
    refine lv_aload_n hx hb dX5_readOn_0 rfl (lv_at hl 0 rfl) ?_
    refine r_get hx hb hts hown hK hw (v_mn (by decide)) rfl E_mn inX5 rfl 1 (by decide) k_206 rfl rfl dX5_readOn_1 ?_
    obtain ⟨r2, y1, h⟩ := t_b1 h
    refine c_vi hx hb hml hown hts hK hw hS (fun _ h => h) (As := []) (rest := []) (c_X4_openQuestions hcv (g := 0) (hg := (by decide)) (M0 := M) (m := M 0) (hm := rfl) y1) cf_X4_openQuestions k_337 rfl rfl ⟨Nat.le_of_ble_eq_true rfl, Nat.le_of_ble_eq_true rfl⟩ (r_recv hK hw (v_st (by decide) (by decide)) (E_st (by decide)) rfl) rfl hl.1 rfl (Nat.le_of_ble_eq_true rfl) ⟨Nat.le_refl _, Nat.le_refl _⟩ dX5_readOn_4 (fun H locs hw hS => ?_)
    refine lv_if_ne (tgt := 13) hx hb dX5_readOn_7 (by decide) (fun q3 => ?_) (fun q3 => ?_)
    · replace h := t_neg h q3
      refine lv_aload_n hx hb dX5_readOn_13 rfl (lv_at hl 0 rfl) ?_
      refine r_get hx hb hts hown hK hw (v_mn (by decide)) rfl E_mn inX5 rfl 1 (by decide) k_206 rfl rfl dX5_readOn_14 ?_
      obtain ⟨r5, y4, h⟩ := t_b1 h
      refine c_vi hx hb hml hown hts hK hw hS (fun _ h => h) (As := []) (rest := []) (c_X4_nextBlock hcv (g := 0) (hg := (by decide)) (M0 := M) (m := M 0) (hm := rfl) y4) cf_X4_nextBlock k_297 rfl rfl ⟨Nat.le_of_ble_eq_true rfl, Nat.le_of_ble_eq_true rfl⟩ (r_recv hK hw (v_st (by decide) (by decide)) (E_st (by decide)) rfl) rfl hl.1 rfl (Nat.le_of_ble_eq_true rfl) ⟨Nat.le_refl _, Nat.le_refl _⟩ dX5_readOn_17 (fun H locs hw hS => ?_)
      refine lv_bipush (v := -5) hx hb dX5_readOn_20 (by decide) ?_
      refine lv_icmp_ne (tgt := 28) hx hb dX5_readOn_22 (by decide) (fun q6 => ?_) (fun q6 => ?_)
      · replace h := t_neg h q6
        refine lv_aload_n hx hb dX5_readOn_28 rfl (lv_at hl 0 rfl) ?_
        refine r_get hx hb hts hown hK hw (v_mn (by decide)) rfl E_mn inX5 rfl 4 (by decide) k_209 rfl rfl dX5_readOn_29 ?_
        refine lv_aload_n hx hb dX5_readOn_32 rfl (lv_at hl 0 rfl) ?_
        refine r_get hx hb hts hown hK hw (v_mn (by decide)) rfl E_mn inX5 rfl 1 (by decide) k_206 rfl rfl dX5_readOn_33 ?_
        obtain ⟨r8, M9, y7, h⟩ := t_bd h
        refine c_vv hx hb hml hown hts hK hw hS (fun _ h => h) (As := [.ref (ad 0 0)]) (rest := []) (c_X2_record hcv (M := M) y7) cf_X2_record k_231 rfl rfl ⟨Nat.le_of_ble_eq_true rfl, Nat.le_of_ble_eq_true rfl⟩ (r_recv hK hw (v_mn (by decide)) E_hi rfl) rfl hl.1 rfl (Nat.le_of_ble_eq_true rfl) ⟨Nat.le_refl _, Nat.le_refl _⟩ dX5_readOn_36 (fun H locs hw hS => ?_)
        refine lv_aload_n hx hb dX5_readOn_39 rfl (lv_at hl 0 rfl) ?_
        refine r_get hx hb hts hown hK hw (v_mn (by decide)) rfl E_mn inX5 rfl 1 (by decide) k_206 rfl rfl dX5_readOn_40 ?_
        obtain ⟨r11, m12, y10, h⟩ := t_bd h
        obtain ⟨M13, e14, h⟩ := t_lt h
        refine c_vi hx hb hml hown hts hK hw hS (fun _ h => h) (As := []) (rest := []) (c_X4_readWhileOpen hcv (g := 0) (hg := (by decide)) (M0 := M9) (m := M9 0) (hm := rfl) y10) cf_X4_readWhileOpen k_341 rfl rfl ⟨Nat.le_of_ble_eq_true rfl, Nat.le_of_ble_eq_true rfl⟩ (r_recv hK hw (v_st (by decide) (by decide)) (E_st (by decide)) rfl) rfl hl.1 rfl (Nat.le_of_ble_eq_true rfl) ⟨Nat.le_refl _, Nat.le_refl _⟩ dX5_readOn_43 (fun H locs hw hS => ?_)
        rw [← e14] at hw
        have e1 := (t_ret h).1
        have e2 := (t_ret h).2
        exact e_i hx hb hr hlk hw hS e1 e2 dX5_readOn_46
      · replace h := t_pos h q6
        refine lv_bipush (v := -5) hx hb dX5_readOn_25 (by decide) ?_
        have e1 := (t_ret h).1
        have e2 := (t_ret h).2
        exact e_i hx hb hr hlk hw hS e1 e2 dX5_readOn_27
    · replace h := t_pos h q3
      refine lv_bipush (v := -4) hx hb dX5_readOn_10 (by decide) ?_
      have e1 := (t_ret h).1
      have e2 := (t_ret h).2
      exact e_i hx hb hr hlk hw hS e1 e2 dX5_readOn_12
  exact main _ _ hw hS ls hl

theorem cf_X5_type : cfV RX5 yX5_type cX5_type 2 (some .int) 1 := ⟨⟨k_423, k_424, k_1, k_425⟩, by decide +kernel⟩
def f_X5_type (M : MM) (p0 : Int32) : Option (Int32 × MM) :=
  (if (M 7 0 2) < (nI 80) then bd (f_X1_append (M 7) p0) fun r3 m4 => lt1 (gs M 7 m4) fun M5 => some ((M5 7 0 2), M5) else some ((-3 : Int32), M))
set_option maxHeartbeats 4000000 in
set_option maxRecDepth 100000 in
theorem c_X5_type {l : Launch} {D : va_G} {cy : Nat → ClassId} {ad : Nat → Nat → Nat} (hcv : CV ad) {M : MM} {p0 : Int32} {r : Int32} {x : MM} (h : f_X5_type M p0 = some (r, x)) : Met l yX5_type (.code yX5_type cX5_type 2 (some .int) :: TB) ({ frames := 1, cells := 0, slots := 0, locals := 21 } : Room) (PW D cy ad M [.ref (ad 8 0), .int p0]) (QI D cy ad r x) 0 0 (AD ad) := by
  refine m_in (by decide +kernel) (Nat.le_of_ble_eq_true rfl) ?_
  intro p e s md args below meth c hC hw hS ls hl
  obtain ⟨hx, hb, hr, hml, hown, hts, hK, hlk⟩ := hC
  have hl : lv_has ls 2 [(0, .ref (ad 8 0)), (1, .int p0)] := hl
  unfold f_X5_type at h
  have main : JL p l e ({ frames := 1, cells := 0, slots := 0, locals := 21 } : Room) s md args below meth c D cy ad (MQ below (QI D cy ad r x) args s 0 0 (AD ad)) (M) 2 [(0, .ref (ad 8 0)), (1, .int p0)] 0 [] := by
    intro H locs hw hS ls hl
    refine lv_aload_n hx hb dX5_type_0 rfl (lv_at hl 0 rfl) ?_
    refine r_get hx hb hts hown hK hw (v_mn (by decide)) rfl E_mn inX5 rfl 0 (by decide) k_205 rfl rfl dX5_type_1 ?_
    refine r_get hx hb hts hown hK hw (v_tx (by decide)) rfl E_tx inX1 rfl 2 (by decide) k_27 rfl rfl dX5_type_4 ?_
    refine lv_bipush (v := nI 80) hx hb dX5_type_7 (by decide) ?_
    refine lv_icmp_lt (tgt := 15) hx hb dX5_type_9 (by decide) (fun q1 => ?_) (fun q1 => ?_)
    · replace h := t_pos h q1
      refine lv_aload_n hx hb dX5_type_15 rfl (lv_at hl 0 rfl) ?_
      refine r_get hx hb hts hown hK hw (v_mn (by decide)) rfl E_mn inX5 rfl 0 (by decide) k_205 rfl rfl dX5_type_16 ?_
      refine lv_iload_n hx hb dX5_type_19 rfl (lv_at hl 1 rfl) ?_
      obtain ⟨r3, m4, y2, h⟩ := t_bd h
      obtain ⟨M5, e6, h⟩ := t_lt h
      refine c_vv hx hb hml hown hts hK hw hS (fun _ h => h) (As := [.int p0]) (rest := []) (c_X1_append hcv (M0 := M) (m := M 7) (hm := rfl) y2) cf_X1_append k_426 rfl rfl ⟨Nat.le_of_ble_eq_true rfl, Nat.le_of_ble_eq_true rfl⟩ (r_recv hK hw (v_tx (by decide)) E_tx rfl) rfl hl.1 rfl (Nat.le_of_ble_eq_true rfl) ⟨Nat.le_refl _, Nat.le_refl _⟩ dX5_type_20 (fun H locs hw hS => ?_)
      rw [← e6] at hw
      refine lv_aload_n hx hb dX5_type_23 rfl (lv_at hl 0 rfl) ?_
      refine r_get hx hb hts hown hK hw (v_mn (by decide)) rfl E_mn inX5 rfl 0 (by decide) k_205 rfl rfl dX5_type_24 ?_
      refine r_get hx hb hts hown hK hw (v_tx (by decide)) rfl E_tx inX1 rfl 2 (by decide) k_27 rfl rfl dX5_type_27 ?_
      have e1 := (t_ret h).1
      have e2 := (t_ret h).2
      exact e_i hx hb hr hlk hw hS e1 e2 dX5_type_30
    · replace h := t_neg h q1
      refine lv_bipush (v := -3) hx hb dX5_type_12 (by decide) ?_
      have e1 := (t_ret h).1
      have e2 := (t_ret h).2
      exact e_i hx hb hr hlk hw hS e1 e2 dX5_type_14
  exact main _ _ hw hS ls hl

theorem cf_X5_clearText : cfV RX5 yX5_clearText cX5_clearText 2 (some .int) 0 := ⟨⟨k_479, k_480, k_1, k_481⟩, by decide +kernel⟩
def f_X5_clearText (M : MM) : Option (Int32 × MM) :=
  lt1 (gs M 7 (up (M 7) 0 2 (nI 0))) fun M2 => some ((M 7 0 2), M2)
set_option maxHeartbeats 4000000 in
set_option maxRecDepth 100000 in
theorem c_X5_clearText {l : Launch} {D : va_G} {cy : Nat → ClassId} {ad : Nat → Nat → Nat} (hcv : CV ad) {M : MM} {r : Int32} {x : MM} (h : f_X5_clearText M = some (r, x)) : Met l yX5_clearText (.code yX5_clearText cX5_clearText 2 (some .int) :: TB) ({ frames := 0, cells := 0, slots := 0, locals := 0 } : Room) (PW D cy ad M [.ref (ad 8 0)]) (QI D cy ad r x) 0 0 (AD ad) := by
  refine m_in (by decide +kernel) (Nat.le_of_ble_eq_true rfl) ?_
  intro p e s md args below meth c hC hw hS ls hl
  obtain ⟨hx, hb, hr, hml, hown, hts, hK, hlk⟩ := hC
  have hl : lv_has ls 2 [(0, .ref (ad 8 0))] := hl
  unfold f_X5_clearText at h
  have main : JL p l e ({ frames := 0, cells := 0, slots := 0, locals := 0 } : Room) s md args below meth c D cy ad (MQ below (QI D cy ad r x) args s 0 0 (AD ad)) (M) 2 [(0, .ref (ad 8 0))] 0 [] := by
    intro H locs hw hS ls hl
    refine lv_aload_n hx hb dX5_clearText_0 rfl (lv_at hl 0 rfl) ?_
    refine r_get hx hb hts hown hK hw (v_mn (by decide)) rfl E_mn inX5 rfl 0 (by decide) k_205 rfl rfl dX5_clearText_1 ?_
    refine r_get hx hb hts hown hK hw (v_tx (by decide)) rfl E_tx inX1 rfl 2 (by decide) k_27 rfl rfl dX5_clearText_4 ?_
    refine lv_istore_n (lv' := [(1, .int (M 7 0 2)), (0, .ref (ad 8 0))]) hx hb dX5_clearText_7 rfl hl (by decide) rfl (fun ls hl => ?_)
    refine lv_aload_n hx hb dX5_clearText_8 rfl (lv_at hl 1 rfl) ?_
    refine r_get hx hb hts hown hK hw (v_mn (by decide)) rfl E_mn inX5 rfl 0 (by decide) k_205 rfl rfl dX5_clearText_9 ?_
    refine lv_iconst (v := nI 0) hx hb dX5_clearText_12 (by decide) ?_
    obtain ⟨M2, e1, h⟩ := t_lt h
    refine r_put hx hb hts hown hK hcv hw hS (v_tx (by decide)) rfl E_tx inX1 rfl tyX1 tyX1_ok nmX1 2 (by decide) k_27 rfl rfl rfl rfl (Nat.le_of_ble_eq_true rfl) E_tx e1.symm dX5_clearText_13 (fun H locs hw hS => ?_)
    refine lv_iload_n hx hb dX5_clearText_16 rfl (lv_at hl 0 rfl) ?_
    have e1 := (t_ret h).1
    have e2 := (t_ret h).2
    exact e_i hx hb hr hlk hw hS e1 e2 dX5_clearText_17
  exact main _ _ hw hS ls hl

theorem cf_X5_block : cfV RX5 yX5_block cX5_block 4 (some .int) 2 := ⟨⟨k_348, k_349, k_1, k_350⟩, by decide +kernel⟩
def f_X5_block (M : MM) (p0 : Int32) (p1 : Int32) : Option (Int32) :=
  b1 (f_X4_hasBlock (M 0) p0) fun r2 => (if r2 = (nI 0) then some (-1 : Int32) else gd p0 8 ((if p1 = (nI 0) then some (M 0 (3 + p0.toNatClampNeg) 1) else (if p1 = (nI 1) then some (M 0 (3 + p0.toNatClampNeg) 2) else (if p1 = (nI 2) then some (M 0 (3 + p0.toNatClampNeg) 3) else (if p1 = (nI 3) then some (M 0 (3 + p0.toNatClampNeg) 4) else (if p1 = (nI 4) then some (M 0 (3 + p0.toNatClampNeg) 5) else (if p1 = (nI 5) then b1 (f_X4_weight (M 0) p0.toNatClampNeg) fun r13 => some r13 else (if p1 = (nI 6) then some (M 0 (3 + p0.toNatClampNeg) 6) else (some (-2 : Int32)))))))))))
set_option maxHeartbeats 4000000 in
set_option maxRecDepth 100000 in
theorem c_X5_block {l : Launch} {D : va_G} {cy : Nat → ClassId} {ad : Nat → Nat → Nat} (hcv : CV ad) {M : MM} {p0 p1 : Int32} {r : Int32} (h : f_X5_block M p0 p1 = some r) : Met l yX5_block (.code yX5_block cX5_block 4 (some .int) :: TB) ({ frames := 2, cells := 0, slots := 0, locals := 45 } : Room) (PW D cy ad M [.ref (ad 8 0), .int p0, .int p1]) (QI D cy ad r M) 0 0 (AD ad) := by
  refine m_in (by decide +kernel) (Nat.le_of_ble_eq_true rfl) ?_
  intro p e s md args below meth c hC hw hS ls hl
  obtain ⟨hx, hb, hr, hml, hown, hts, hK, hlk⟩ := hC
  have hl : lv_has ls 4 [(0, .ref (ad 8 0)), (1, .int p0), (2, .int p1)] := hl
  unfold f_X5_block at h
  have main : JL p l e ({ frames := 2, cells := 0, slots := 0, locals := 45 } : Room) s md args below meth c D cy ad (MQ below (QI D cy ad r M) args s 0 0 (AD ad)) (M) 4 [(0, .ref (ad 8 0)), (1, .int p0), (2, .int p1)] 0 [] := by
    intro H locs hw hS ls hl
    refine lv_aload_n hx hb dX5_block_0 rfl (lv_at hl 0 rfl) ?_
    refine r_get hx hb hts hown hK hw (v_mn (by decide)) rfl E_mn inX5 rfl 1 (by decide) k_206 rfl rfl dX5_block_1 ?_
    refine lv_iload_n hx hb dX5_block_4 rfl (lv_at hl 1 rfl) ?_
    obtain ⟨r2, y1, h⟩ := t_b1 h
    refine c_vi hx hb hml hown hts hK hw hS (fun _ h => h) (As := [.int p0]) (rest := []) (c_X4_hasBlock hcv (g := 0) (hg := (by decide)) (M0 := M) (m := M 0) (hm := rfl) y1) cf_X4_hasBlock k_351 rfl rfl ⟨Nat.le_of_ble_eq_true rfl, Nat.le_of_ble_eq_true rfl⟩ (r_recv hK hw (v_st (by decide) (by decide)) (E_st (by decide)) rfl) rfl hl.1 rfl (Nat.le_of_ble_eq_true rfl) ⟨Nat.le_refl _, Nat.le_refl _⟩ dX5_block_5 (fun H locs hw hS => ?_)
    refine lv_if_ne (tgt := 13) hx hb dX5_block_8 (by decide) (fun q3 => ?_) (fun q3 => ?_)
    · replace h := t_neg h q3
      refine lv_aload_n hx hb dX5_block_13 rfl (lv_at hl 0 rfl) ?_
      refine r_get hx hb hts hown hK hw (v_mn (by decide)) rfl E_mn inX5 rfl 1 (by decide) k_206 rfl rfl dX5_block_14 ?_
      refine r_get hx hb hts hown hK hw (v_st (by decide) (by decide)) rfl (E_st (by decide)) inX4 rfl 0 (by decide) k_161 rfl rfl dX5_block_17 ?_
      refine lv_iload_n hx hb dX5_block_20 rfl (lv_at hl 1 rfl) ?_
      obtain ⟨q4, h⟩ := t_gd h
      refine r_aald hx hb hK hw (v_st (by decide) (by decide)) (t0 := 2) rfl (E_ba (by decide)) (v := .ref (ad 0 (3 + p0.toNatClampNeg))) rfl q4 dX5_block_21 ?_
      refine lv_astore_n (lv' := [(3, .ref (ad 0 (3 + p0.toNatClampNeg))), (0, .ref (ad 8 0)), (1, .int p0), (2, .int p1)]) hx hb dX5_block_22 rfl hl (by decide) rfl (fun ls hl => ?_)
      refine lv_iload_n hx hb dX5_block_23 rfl (lv_at hl 3 rfl) ?_
      by_cases q5 : p1 = (nI 0)
      · replace h := t_pos h q5
        refine lv_tableIn (off := 44) (tgt := 68) hx hb dX5_block_24 (by rw [q5]; decide) (by rw [q5]; decide) (by rw [q5]; rfl) (by decide) ?_
        refine lv_aload_n hx hb dX5_block_68 rfl (lv_at hl 0 rfl) ?_
        refine r_get hx hb hts hown hK hw (v_bk (by decide) (vin q4)) rfl (E_bk (by decide) (vin q4)) inX0 rfl 1 (by decide) k_76 rfl rfl dX5_block_69 ?_
        have e1 := Option.some.inj h
        exact e_i hx hb hr hlk hw hS e1 rfl dX5_block_72
      · replace h := t_neg h q5
        by_cases q6 : p1 = (nI 1)
        · replace h := t_pos h q6
          refine lv_tableIn (off := 49) (tgt := 73) hx hb dX5_block_24 (by rw [q6]; decide) (by rw [q6]; decide) (by rw [q6]; rfl) (by decide) ?_
          refine lv_aload_n hx hb dX5_block_73 rfl (lv_at hl 0 rfl) ?_
          refine r_get hx hb hts hown hK hw (v_bk (by decide) (vin q4)) rfl (E_bk (by decide) (vin q4)) inX0 rfl 2 (by decide) k_80 rfl rfl dX5_block_74 ?_
          have e1 := Option.some.inj h
          exact e_i hx hb hr hlk hw hS e1 rfl dX5_block_77
        · replace h := t_neg h q6
          by_cases q7 : p1 = (nI 2)
          · replace h := t_pos h q7
            refine lv_tableIn (off := 54) (tgt := 78) hx hb dX5_block_24 (by rw [q7]; decide) (by rw [q7]; decide) (by rw [q7]; rfl) (by decide) ?_
            refine lv_aload_n hx hb dX5_block_78 rfl (lv_at hl 0 rfl) ?_
            refine r_get hx hb hts hown hK hw (v_bk (by decide) (vin q4)) rfl (E_bk (by decide) (vin q4)) inX0 rfl 3 (by decide) k_84 rfl rfl dX5_block_79 ?_
            have e1 := Option.some.inj h
            exact e_i hx hb hr hlk hw hS e1 rfl dX5_block_82
          · replace h := t_neg h q7
            by_cases q8 : p1 = (nI 3)
            · replace h := t_pos h q8
              refine lv_tableIn (off := 59) (tgt := 83) hx hb dX5_block_24 (by rw [q8]; decide) (by rw [q8]; decide) (by rw [q8]; rfl) (by decide) ?_
              refine lv_aload_n hx hb dX5_block_83 rfl (lv_at hl 0 rfl) ?_
              refine r_get hx hb hts hown hK hw (v_bk (by decide) (vin q4)) rfl (E_bk (by decide) (vin q4)) inX0 rfl 4 (by decide) k_87 rfl rfl dX5_block_84 ?_
              have e1 := Option.some.inj h
              exact e_i hx hb hr hlk hw hS e1 rfl dX5_block_87
            · replace h := t_neg h q8
              by_cases q9 : p1 = (nI 4)
              · replace h := t_pos h q9
                refine lv_tableIn (off := 64) (tgt := 88) hx hb dX5_block_24 (by rw [q9]; decide) (by rw [q9]; decide) (by rw [q9]; rfl) (by decide) ?_
                refine lv_aload_n hx hb dX5_block_88 rfl (lv_at hl 0 rfl) ?_
                refine r_get hx hb hts hown hK hw (v_bk (by decide) (vin q4)) rfl (E_bk (by decide) (vin q4)) inX0 rfl 5 (by decide) k_90 rfl rfl dX5_block_89 ?_
                have e1 := Option.some.inj h
                exact e_i hx hb hr hlk hw hS e1 rfl dX5_block_92
              · replace h := t_neg h q9
                by_cases q10 : p1 = (nI 5)
                · replace h := t_pos h q10
                  refine lv_tableIn (off := 69) (tgt := 93) hx hb dX5_block_24 (by rw [q10]; decide) (by rw [q10]; decide) (by rw [q10]; rfl) (by decide) ?_
                  refine lv_aload_n hx hb dX5_block_93 rfl (lv_at hl 1 rfl) ?_
                  refine r_get hx hb hts hown hK hw (v_mn (by decide)) rfl E_mn inX5 rfl 1 (by decide) k_206 rfl rfl dX5_block_94 ?_
                  refine lv_aload_n hx hb dX5_block_97 rfl (lv_at hl 0 rfl) ?_
                  obtain ⟨r13, y12, h⟩ := t_b1 h
                  refine c_vi hx hb hml hown hts hK hw hS (fun _ h => h) (As := [.ref (ad 0 (3 + p0.toNatClampNeg))]) (rest := []) (c_X4_weight hcv (g := 0) (hg := (by decide)) (i := p0.toNatClampNeg) (hi := (vin q4)) (M0 := M) (m := M 0) (hm := rfl) y12) cf_X4_weight k_352 rfl rfl ⟨Nat.le_of_ble_eq_true rfl, Nat.le_of_ble_eq_true rfl⟩ (r_recv hK hw (v_st (by decide) (by decide)) (E_st (by decide)) rfl) rfl hl.1 rfl (Nat.le_of_ble_eq_true rfl) ⟨Nat.le_refl _, Nat.le_refl _⟩ dX5_block_98 (fun H locs hw hS => ?_)
                  have e1 := Option.some.inj h
                  exact e_i hx hb hr hlk hw hS e1 rfl dX5_block_101
                · replace h := t_neg h q10
                  by_cases q11 : p1 = (nI 6)
                  · replace h := t_pos h q11
                    refine lv_tableIn (off := 78) (tgt := 102) hx hb dX5_block_24 (by rw [q11]; decide) (by rw [q11]; decide) (by rw [q11]; rfl) (by decide) ?_
                    refine lv_aload_n hx hb dX5_block_102 rfl (lv_at hl 0 rfl) ?_
                    refine r_get hx hb hts hown hK hw (v_bk (by decide) (vin q4)) rfl (E_bk (by decide) (vin q4)) inX0 rfl 6 (by decide) k_93 rfl rfl dX5_block_103 ?_
                    have e1 := Option.some.inj h
                    exact e_i hx hb hr hlk hw hS e1 rfl dX5_block_106
                  · replace h := t_neg h q11
                    refine lv_tableOut (tgt := 107) hx hb dX5_block_24 (tab_out (lo := 0) (n := 7) (by decide) (lt_s (lt_s (lt_s (lt_s (lt_s (lt_s (lt_s lt_0 q5) q6) q7) q8) q9) q10) q11)) (by decide) ?_
                    refine lv_bipush (v := -2) hx hb dX5_block_107 (by decide) ?_
                    have e1 := Option.some.inj h
                    exact e_i hx hb hr hlk hw hS e1 rfl dX5_block_109
    · replace h := t_pos h q3
      refine lv_iconst (v := -1) hx hb dX5_block_11 (by decide) ?_
      have e1 := Option.some.inj h
      exact e_i hx hb hr hlk hw hS e1 rfl dX5_block_12
  exact main _ _ hw hS ls hl

theorem cf_X5_value : cfV RX5 yX5_value cX5_value 4 (some .int) 2 := ⟨⟨k_354, k_355, k_1, k_356⟩, by decide +kernel⟩
def f_X5_value (M : MM) (p0 : Int32) (p1 : Int32) : Option (Int32) :=
  b1 (f_X4_hasRow (M 0) p0 p1) fun r2 => (if r2 = (nI 0) then some (-1 : Int32) else gd p0 8 ((if (M 0 (3 + p0.toNatClampNeg) 5) ≤ p1 then some (-4 : Int32) else gd p1 16 (some (M 0 (11 + p0.toNatClampNeg) p1.toNatClampNeg)))))
set_option maxHeartbeats 4000000 in
set_option maxRecDepth 100000 in
theorem c_X5_value {l : Launch} {D : va_G} {cy : Nat → ClassId} {ad : Nat → Nat → Nat} (hcv : CV ad) {M : MM} {p0 p1 : Int32} {r : Int32} (h : f_X5_value M p0 p1 = some r) : Met l yX5_value (.code yX5_value cX5_value 4 (some .int) :: TB) ({ frames := 3, cells := 0, slots := 0, locals := 65 } : Room) (PW D cy ad M [.ref (ad 8 0), .int p0, .int p1]) (QI D cy ad r M) 0 0 (AD ad) := by
  refine m_in (by decide +kernel) (Nat.le_of_ble_eq_true rfl) ?_
  intro p e s md args below meth c hC hw hS ls hl
  obtain ⟨hx, hb, hr, hml, hown, hts, hK, hlk⟩ := hC
  have hl : lv_has ls 4 [(0, .ref (ad 8 0)), (1, .int p0), (2, .int p1)] := hl
  unfold f_X5_value at h
  have main : JL p l e ({ frames := 3, cells := 0, slots := 0, locals := 65 } : Room) s md args below meth c D cy ad (MQ below (QI D cy ad r M) args s 0 0 (AD ad)) (M) 4 [(0, .ref (ad 8 0)), (1, .int p0), (2, .int p1)] 0 [] := by
    intro H locs hw hS ls hl
    refine lv_aload_n hx hb dX5_value_0 rfl (lv_at hl 0 rfl) ?_
    refine r_get hx hb hts hown hK hw (v_mn (by decide)) rfl E_mn inX5 rfl 1 (by decide) k_206 rfl rfl dX5_value_1 ?_
    refine lv_iload_n hx hb dX5_value_4 rfl (lv_at hl 1 rfl) ?_
    refine lv_iload_n hx hb dX5_value_5 rfl (lv_at hl 2 rfl) ?_
    obtain ⟨r2, y1, h⟩ := t_b1 h
    refine c_vi hx hb hml hown hts hK hw hS (fun _ h => h) (As := [.int p0, .int p1]) (rest := []) (c_X4_hasRow hcv (g := 0) (hg := (by decide)) (M0 := M) (m := M 0) (hm := rfl) y1) cf_X4_hasRow k_357 rfl rfl ⟨Nat.le_of_ble_eq_true rfl, Nat.le_of_ble_eq_true rfl⟩ (r_recv hK hw (v_st (by decide) (by decide)) (E_st (by decide)) rfl) rfl hl.1 rfl (Nat.le_of_ble_eq_true rfl) ⟨Nat.le_refl _, Nat.le_refl _⟩ dX5_value_6 (fun H locs hw hS => ?_)
    refine lv_if_ne (tgt := 14) hx hb dX5_value_9 (by decide) (fun q3 => ?_) (fun q3 => ?_)
    · replace h := t_neg h q3
      refine lv_aload_n hx hb dX5_value_14 rfl (lv_at hl 0 rfl) ?_
      refine r_get hx hb hts hown hK hw (v_mn (by decide)) rfl E_mn inX5 rfl 1 (by decide) k_206 rfl rfl dX5_value_15 ?_
      refine r_get hx hb hts hown hK hw (v_st (by decide) (by decide)) rfl (E_st (by decide)) inX4 rfl 0 (by decide) k_161 rfl rfl dX5_value_18 ?_
      refine lv_iload_n hx hb dX5_value_21 rfl (lv_at hl 1 rfl) ?_
      obtain ⟨q4, h⟩ := t_gd h
      refine r_aald hx hb hK hw (v_st (by decide) (by decide)) (t0 := 2) rfl (E_ba (by decide)) (v := .ref (ad 0 (3 + p0.toNatClampNeg))) rfl q4 dX5_value_22 ?_
      refine lv_astore_n (lv' := [(3, .ref (ad 0 (3 + p0.toNatClampNeg))), (0, .ref (ad 8 0)), (1, .int p0), (2, .int p1)]) hx hb dX5_value_23 rfl hl (by decide) rfl (fun ls hl => ?_)
      refine lv_iload_n hx hb dX5_value_24 rfl (lv_at hl 3 rfl) ?_
      refine lv_aload_n hx hb dX5_value_25 rfl (lv_at hl 0 rfl) ?_
      refine r_get hx hb hts hown hK hw (v_bk (by decide) (vin q4)) rfl (E_bk (by decide) (vin q4)) inX0 rfl 5 (by decide) k_90 rfl rfl dX5_value_26 ?_
      refine lv_icmp_ge (tgt := 41) hx hb dX5_value_29 (by decide) (fun q5 => ?_) (fun q5 => ?_)
      · replace h := t_pos h q5
        refine lv_bipush (v := -4) hx hb dX5_value_41 (by decide) ?_
        have e1 := Option.some.inj h
        exact e_i hx hb hr hlk hw hS e1 rfl dX5_value_43
      · replace h := t_neg h q5
        refine lv_aload_n hx hb dX5_value_32 rfl (lv_at hl 0 rfl) ?_
        refine r_get hx hb hts hown hK hw (v_bk (by decide) (vin q4)) rfl (E_bk (by decide) (vin q4)) inX0 rfl 0 (by decide) k_73 rfl rfl dX5_value_33 ?_
        refine lv_iload_n hx hb dX5_value_36 rfl (lv_at hl 3 rfl) ?_
        obtain ⟨q6, h⟩ := t_gd h
        refine r_iald hx hb hK hw (v_va (by decide) (vin q4)) rfl (E_va (by decide) (vin q4)) q6 dX5_value_37 ?_
        refine lv_goto (tgt := 43) hx hb dX5_value_38 (by decide) ?_
        have e1 := Option.some.inj h
        exact e_i hx hb hr hlk hw hS e1 rfl dX5_value_43
    · replace h := t_pos h q3
      refine lv_iconst (v := -1) hx hb dX5_value_12 (by decide) ?_
      have e1 := Option.some.inj h
      exact e_i hx hb hr hlk hw hS e1 rfl dX5_value_13
  exact main _ _ hw hS ls hl

theorem cf_X5_question : cfV RX5 yX5_question cX5_question 4 (some .int) 2 := ⟨⟨k_362, k_363, k_1, k_364⟩, by decide +kernel⟩
def f_X5_question (M : MM) (p0 : Int32) (p1 : Int32) : Option (Int32) :=
  b1 (f_X4_hasQuestion (M 0) p0) fun r2 => (if r2 = (nI 0) then some (-1 : Int32) else gd p0 6 ((if p1 = (nI 0) then some (M 0 (19 + p0.toNatClampNeg) 0) else (if p1 = (nI 1) then some (M 0 (19 + p0.toNatClampNeg) 1) else (if p1 = (nI 2) then some (M 0 (19 + p0.toNatClampNeg) 2) else (if p1 = (nI 3) then some (M 0 (19 + p0.toNatClampNeg) 3) else (if p1 = (nI 4) then (if (M 0 (19 + p0.toNatClampNeg) 4) = (nI 0) then some (nI 0) else some (nI 1)) else (if p1 = (nI 5) then b1 (f_X4_answer (M 0) p0.toNatClampNeg (nI 0)) fun r30 => some r30 else (if p1 = (nI 6) then b1 (f_X4_answer (M 0) p0.toNatClampNeg (nI 1)) fun r28 => some r28 else (if p1 = (nI 7) then b1 (f_X4_answer (M 0) p0.toNatClampNeg (nI 2)) fun r26 => some r26 else (if p1 = (nI 8) then (if (M 0 (19 + p0.toNatClampNeg) 4) = (nI 0) then some (-5 : Int32) else some (M 0 (19 + p0.toNatClampNeg) 5)) else (if p1 = (nI 9) then (if (M 0 (19 + p0.toNatClampNeg) 4) = (nI 0) then some (-5 : Int32) else some (M 0 (19 + p0.toNatClampNeg) 6)) else (if p1 = (nI 10) then (if (M 0 (19 + p0.toNatClampNeg) 4) = (nI 0) then some (-5 : Int32) else some (M 0 (19 + p0.toNatClampNeg) 7)) else (if p1 = (nI 11) then b1 (f_X4_rows (M 0) (M 0 (19 + p0.toNatClampNeg) 1)) fun r21 => some r21 else (if p1 = (nI 12) then b1 (f_X4_readRows (M 0) (M 0 (19 + p0.toNatClampNeg) 1)) fun r19 => some r19 else (some (-2 : Int32)))))))))))))))))
set_option maxHeartbeats 4000000 in
set_option maxRecDepth 100000 in
theorem c_X5_question {l : Launch} {D : va_G} {cy : Nat → ClassId} {ad : Nat → Nat → Nat} (hcv : CV ad) {M : MM} {p0 p1 : Int32} {r : Int32} (h : f_X5_question M p0 p1 = some r) : Met l yX5_question (.code yX5_question cX5_question 4 (some .int) :: TB) ({ frames := 3, cells := 0, slots := 0, locals := 76 } : Room) (PW D cy ad M [.ref (ad 8 0), .int p0, .int p1]) (QI D cy ad r M) 0 0 (AD ad) := by
  refine m_in (by decide +kernel) (Nat.le_of_ble_eq_true rfl) ?_
  intro p e s md args below meth c hC hw hS ls hl
  obtain ⟨hx, hb, hr, hml, hown, hts, hK, hlk⟩ := hC
  have hl : lv_has ls 4 [(0, .ref (ad 8 0)), (1, .int p0), (2, .int p1)] := hl
  unfold f_X5_question at h
  have main : JL p l e ({ frames := 3, cells := 0, slots := 0, locals := 76 } : Room) s md args below meth c D cy ad (MQ below (QI D cy ad r M) args s 0 0 (AD ad)) (M) 4 [(0, .ref (ad 8 0)), (1, .int p0), (2, .int p1)] 0 [] := by
    intro H locs hw hS ls hl
    refine lv_aload_n hx hb dX5_question_0 rfl (lv_at hl 0 rfl) ?_
    refine r_get hx hb hts hown hK hw (v_mn (by decide)) rfl E_mn inX5 rfl 1 (by decide) k_206 rfl rfl dX5_question_1 ?_
    refine lv_iload_n hx hb dX5_question_4 rfl (lv_at hl 1 rfl) ?_
    obtain ⟨r2, y1, h⟩ := t_b1 h
    refine c_vi hx hb hml hown hts hK hw hS (fun _ h => h) (As := [.int p0]) (rest := []) (c_X4_hasQuestion hcv (g := 0) (hg := (by decide)) (M0 := M) (m := M 0) (hm := rfl) y1) cf_X4_hasQuestion k_365 rfl rfl ⟨Nat.le_of_ble_eq_true rfl, Nat.le_of_ble_eq_true rfl⟩ (r_recv hK hw (v_st (by decide) (by decide)) (E_st (by decide)) rfl) rfl hl.1 rfl (Nat.le_of_ble_eq_true rfl) ⟨Nat.le_refl _, Nat.le_refl _⟩ dX5_question_5 (fun H locs hw hS => ?_)
    refine lv_if_ne (tgt := 13) hx hb dX5_question_8 (by decide) (fun q3 => ?_) (fun q3 => ?_)
    · replace h := t_neg h q3
      refine lv_aload_n hx hb dX5_question_13 rfl (lv_at hl 0 rfl) ?_
      refine r_get hx hb hts hown hK hw (v_mn (by decide)) rfl E_mn inX5 rfl 1 (by decide) k_206 rfl rfl dX5_question_14 ?_
      refine r_get hx hb hts hown hK hw (v_st (by decide) (by decide)) rfl (E_st (by decide)) inX4 rfl 1 (by decide) k_163 rfl rfl dX5_question_17 ?_
      refine lv_iload_n hx hb dX5_question_20 rfl (lv_at hl 1 rfl) ?_
      obtain ⟨q4, h⟩ := t_gd h
      refine r_aald hx hb hK hw (v_st (by decide) (by decide)) (t0 := 3) rfl (E_qa (by decide)) (v := .ref (ad 0 (19 + p0.toNatClampNeg))) rfl q4 dX5_question_21 ?_
      refine lv_astore_n (lv' := [(3, .ref (ad 0 (19 + p0.toNatClampNeg))), (0, .ref (ad 8 0)), (1, .int p0), (2, .int p1)]) hx hb dX5_question_22 rfl hl (by decide) rfl (fun ls hl => ?_)
      refine lv_iload_n hx hb dX5_question_23 rfl (lv_at hl 3 rfl) ?_
      by_cases q5 : p1 = (nI 0)
      · replace h := t_pos h q5
        refine lv_tableIn (off := 68) (tgt := 92) hx hb dX5_question_24 (by rw [q5]; decide) (by rw [q5]; decide) (by rw [q5]; rfl) (by decide) ?_
        refine lv_aload_n hx hb dX5_question_92 rfl (lv_at hl 0 rfl) ?_
        refine r_get hx hb hts hown hK hw (v_qu (by decide) (vin q4)) rfl (E_qu (by decide)) inX3 rfl 0 (by decide) k_122 rfl rfl dX5_question_93 ?_
        have e1 := Option.some.inj h
        exact e_i hx hb hr hlk hw hS e1 rfl dX5_question_96
      · replace h := t_neg h q5
        by_cases q6 : p1 = (nI 1)
        · replace h := t_pos h q6
          refine lv_tableIn (off := 73) (tgt := 97) hx hb dX5_question_24 (by rw [q6]; decide) (by rw [q6]; decide) (by rw [q6]; rfl) (by decide) ?_
          refine lv_aload_n hx hb dX5_question_97 rfl (lv_at hl 0 rfl) ?_
          refine r_get hx hb hts hown hK hw (v_qu (by decide) (vin q4)) rfl (E_qu (by decide)) inX3 rfl 1 (by decide) k_125 rfl rfl dX5_question_98 ?_
          have e1 := Option.some.inj h
          exact e_i hx hb hr hlk hw hS e1 rfl dX5_question_101
        · replace h := t_neg h q6
          by_cases q7 : p1 = (nI 2)
          · replace h := t_pos h q7
            refine lv_tableIn (off := 78) (tgt := 102) hx hb dX5_question_24 (by rw [q7]; decide) (by rw [q7]; decide) (by rw [q7]; rfl) (by decide) ?_
            refine lv_aload_n hx hb dX5_question_102 rfl (lv_at hl 0 rfl) ?_
            refine r_get hx hb hts hown hK hw (v_qu (by decide) (vin q4)) rfl (E_qu (by decide)) inX3 rfl 2 (by decide) k_128 rfl rfl dX5_question_103 ?_
            have e1 := Option.some.inj h
            exact e_i hx hb hr hlk hw hS e1 rfl dX5_question_106
          · replace h := t_neg h q7
            by_cases q8 : p1 = (nI 3)
            · replace h := t_pos h q8
              refine lv_tableIn (off := 83) (tgt := 107) hx hb dX5_question_24 (by rw [q8]; decide) (by rw [q8]; decide) (by rw [q8]; rfl) (by decide) ?_
              refine lv_aload_n hx hb dX5_question_107 rfl (lv_at hl 0 rfl) ?_
              refine r_get hx hb hts hown hK hw (v_qu (by decide) (vin q4)) rfl (E_qu (by decide)) inX3 rfl 3 (by decide) k_131 rfl rfl dX5_question_108 ?_
              have e1 := Option.some.inj h
              exact e_i hx hb hr hlk hw hS e1 rfl dX5_question_111
            · replace h := t_neg h q8
              by_cases q9 : p1 = (nI 4)
              · replace h := t_pos h q9
                refine lv_tableIn (off := 88) (tgt := 112) hx hb dX5_question_24 (by rw [q9]; decide) (by rw [q9]; decide) (by rw [q9]; rfl) (by decide) ?_
                refine lv_aload_n hx hb dX5_question_112 rfl (lv_at hl 0 rfl) ?_
                refine r_get hx hb hts hown hK hw (v_qu (by decide) (vin q4)) rfl (E_qu (by decide)) inX3 rfl 4 (by decide) k_134 rfl rfl dX5_question_113 ?_
                refine lv_if_eq (tgt := 123) hx hb dX5_question_116 (by decide) (fun q31 => ?_) (fun q31 => ?_)
                · replace h := t_pos h q31
                  refine lv_iconst (v := nI 0) hx hb dX5_question_123 (by decide) ?_
                  have e1 := Option.some.inj h
                  exact e_i hx hb hr hlk hw hS e1 rfl dX5_question_124
                · replace h := t_neg h q31
                  refine lv_iconst (v := nI 1) hx hb dX5_question_119 (by decide) ?_
                  refine lv_goto (tgt := 124) hx hb dX5_question_120 (by decide) ?_
                  have e1 := Option.some.inj h
                  exact e_i hx hb hr hlk hw hS e1 rfl dX5_question_124
              · replace h := t_neg h q9
                by_cases q10 : p1 = (nI 5)
                · replace h := t_pos h q10
                  refine lv_tableIn (off := 101) (tgt := 125) hx hb dX5_question_24 (by rw [q10]; decide) (by rw [q10]; decide) (by rw [q10]; rfl) (by decide) ?_
                  refine lv_aload_n hx hb dX5_question_125 rfl (lv_at hl 1 rfl) ?_
                  refine r_get hx hb hts hown hK hw (v_mn (by decide)) rfl E_mn inX5 rfl 1 (by decide) k_206 rfl rfl dX5_question_126 ?_
                  refine lv_aload_n hx hb dX5_question_129 rfl (lv_at hl 0 rfl) ?_
                  refine lv_iconst (v := nI 0) hx hb dX5_question_130 (by decide) ?_
                  obtain ⟨r30, y29, h⟩ := t_b1 h
                  refine c_vi hx hb hml hown hts hK hw hS (fun _ h => h) (As := [.ref (ad 0 (19 + p0.toNatClampNeg)), .int (nI 0)]) (rest := []) (c_X4_answer hcv (g := 0) (hg := (by decide)) (i := p0.toNatClampNeg) (hi := (vin q4)) (M0 := M) (m := M 0) (hm := rfl) y29) cf_X4_answer k_369 rfl rfl ⟨Nat.le_of_ble_eq_true rfl, Nat.le_of_ble_eq_true rfl⟩ (r_recv hK hw (v_st (by decide) (by decide)) (E_st (by decide)) rfl) rfl hl.1 rfl (Nat.le_of_ble_eq_true rfl) ⟨Nat.le_refl _, Nat.le_refl _⟩ dX5_question_131 (fun H locs hw hS => ?_)
                  have e1 := Option.some.inj h
                  exact e_i hx hb hr hlk hw hS e1 rfl dX5_question_134
                · replace h := t_neg h q10
                  by_cases q11 : p1 = (nI 6)
                  · replace h := t_pos h q11
                    refine lv_tableIn (off := 111) (tgt := 135) hx hb dX5_question_24 (by rw [q11]; decide) (by rw [q11]; decide) (by rw [q11]; rfl) (by decide) ?_
                    refine lv_aload_n hx hb dX5_question_135 rfl (lv_at hl 1 rfl) ?_
                    refine r_get hx hb hts hown hK hw (v_mn (by decide)) rfl E_mn inX5 rfl 1 (by decide) k_206 rfl rfl dX5_question_136 ?_
                    refine lv_aload_n hx hb dX5_question_139 rfl (lv_at hl 0 rfl) ?_
                    refine lv_iconst (v := nI 1) hx hb dX5_question_140 (by decide) ?_
                    obtain ⟨r28, y27, h⟩ := t_b1 h
                    refine c_vi hx hb hml hown hts hK hw hS (fun _ h => h) (As := [.ref (ad 0 (19 + p0.toNatClampNeg)), .int (nI 1)]) (rest := []) (c_X4_answer hcv (g := 0) (hg := (by decide)) (i := p0.toNatClampNeg) (hi := (vin q4)) (M0 := M) (m := M 0) (hm := rfl) y27) cf_X4_answer k_369 rfl rfl ⟨Nat.le_of_ble_eq_true rfl, Nat.le_of_ble_eq_true rfl⟩ (r_recv hK hw (v_st (by decide) (by decide)) (E_st (by decide)) rfl) rfl hl.1 rfl (Nat.le_of_ble_eq_true rfl) ⟨Nat.le_refl _, Nat.le_refl _⟩ dX5_question_141 (fun H locs hw hS => ?_)
                    have e1 := Option.some.inj h
                    exact e_i hx hb hr hlk hw hS e1 rfl dX5_question_144
                  · replace h := t_neg h q11
                    by_cases q12 : p1 = (nI 7)
                    · replace h := t_pos h q12
                      refine lv_tableIn (off := 121) (tgt := 145) hx hb dX5_question_24 (by rw [q12]; decide) (by rw [q12]; decide) (by rw [q12]; rfl) (by decide) ?_
                      refine lv_aload_n hx hb dX5_question_145 rfl (lv_at hl 1 rfl) ?_
                      refine r_get hx hb hts hown hK hw (v_mn (by decide)) rfl E_mn inX5 rfl 1 (by decide) k_206 rfl rfl dX5_question_146 ?_
                      refine lv_aload_n hx hb dX5_question_149 rfl (lv_at hl 0 rfl) ?_
                      refine lv_iconst (v := nI 2) hx hb dX5_question_150 (by decide) ?_
                      obtain ⟨r26, y25, h⟩ := t_b1 h
                      refine c_vi hx hb hml hown hts hK hw hS (fun _ h => h) (As := [.ref (ad 0 (19 + p0.toNatClampNeg)), .int (nI 2)]) (rest := []) (c_X4_answer hcv (g := 0) (hg := (by decide)) (i := p0.toNatClampNeg) (hi := (vin q4)) (M0 := M) (m := M 0) (hm := rfl) y25) cf_X4_answer k_369 rfl rfl ⟨Nat.le_of_ble_eq_true rfl, Nat.le_of_ble_eq_true rfl⟩ (r_recv hK hw (v_st (by decide) (by decide)) (E_st (by decide)) rfl) rfl hl.1 rfl (Nat.le_of_ble_eq_true rfl) ⟨Nat.le_refl _, Nat.le_refl _⟩ dX5_question_151 (fun H locs hw hS => ?_)
                      have e1 := Option.some.inj h
                      exact e_i hx hb hr hlk hw hS e1 rfl dX5_question_154
                    · replace h := t_neg h q12
                      by_cases q13 : p1 = (nI 8)
                      · replace h := t_pos h q13
                        refine lv_tableIn (off := 131) (tgt := 155) hx hb dX5_question_24 (by rw [q13]; decide) (by rw [q13]; decide) (by rw [q13]; rfl) (by decide) ?_
                        refine lv_aload_n hx hb dX5_question_155 rfl (lv_at hl 0 rfl) ?_
                        refine r_get hx hb hts hown hK hw (v_qu (by decide) (vin q4)) rfl (E_qu (by decide)) inX3 rfl 4 (by decide) k_134 rfl rfl dX5_question_156 ?_
                        refine lv_if_eq (tgt := 169) hx hb dX5_question_159 (by decide) (fun q24 => ?_) (fun q24 => ?_)
                        · replace h := t_pos h q24
                          refine lv_bipush (v := -5) hx hb dX5_question_169 (by decide) ?_
                          have e1 := Option.some.inj h
                          exact e_i hx hb hr hlk hw hS e1 rfl dX5_question_171
                        · replace h := t_neg h q24
                          refine lv_aload_n hx hb dX5_question_162 rfl (lv_at hl 0 rfl) ?_
                          refine r_get hx hb hts hown hK hw (v_qu (by decide) (vin q4)) rfl (E_qu (by decide)) inX3 rfl 5 (by decide) k_137 rfl rfl dX5_question_163 ?_
                          refine lv_goto (tgt := 171) hx hb dX5_question_166 (by decide) ?_
                          have e1 := Option.some.inj h
                          exact e_i hx hb hr hlk hw hS e1 rfl dX5_question_171
                      · replace h := t_neg h q13
                        by_cases q14 : p1 = (nI 9)
                        · replace h := t_pos h q14
                          refine lv_tableIn (off := 148) (tgt := 172) hx hb dX5_question_24 (by rw [q14]; decide) (by rw [q14]; decide) (by rw [q14]; rfl) (by decide) ?_
                          refine lv_aload_n hx hb dX5_question_172 rfl (lv_at hl 0 rfl) ?_
                          refine r_get hx hb hts hown hK hw (v_qu (by decide) (vin q4)) rfl (E_qu (by decide)) inX3 rfl 4 (by decide) k_134 rfl rfl dX5_question_173 ?_
                          refine lv_if_eq (tgt := 186) hx hb dX5_question_176 (by decide) (fun q23 => ?_) (fun q23 => ?_)
                          · replace h := t_pos h q23
                            refine lv_bipush (v := -5) hx hb dX5_question_186 (by decide) ?_
                            have e1 := Option.some.inj h
                            exact e_i hx hb hr hlk hw hS e1 rfl dX5_question_188
                          · replace h := t_neg h q23
                            refine lv_aload_n hx hb dX5_question_179 rfl (lv_at hl 0 rfl) ?_
                            refine r_get hx hb hts hown hK hw (v_qu (by decide) (vin q4)) rfl (E_qu (by decide)) inX3 rfl 6 (by decide) k_140 rfl rfl dX5_question_180 ?_
                            refine lv_goto (tgt := 188) hx hb dX5_question_183 (by decide) ?_
                            have e1 := Option.some.inj h
                            exact e_i hx hb hr hlk hw hS e1 rfl dX5_question_188
                        · replace h := t_neg h q14
                          by_cases q15 : p1 = (nI 10)
                          · replace h := t_pos h q15
                            refine lv_tableIn (off := 165) (tgt := 189) hx hb dX5_question_24 (by rw [q15]; decide) (by rw [q15]; decide) (by rw [q15]; rfl) (by decide) ?_
                            refine lv_aload_n hx hb dX5_question_189 rfl (lv_at hl 0 rfl) ?_
                            refine r_get hx hb hts hown hK hw (v_qu (by decide) (vin q4)) rfl (E_qu (by decide)) inX3 rfl 4 (by decide) k_134 rfl rfl dX5_question_190 ?_
                            refine lv_if_eq (tgt := 203) hx hb dX5_question_193 (by decide) (fun q22 => ?_) (fun q22 => ?_)
                            · replace h := t_pos h q22
                              refine lv_bipush (v := -5) hx hb dX5_question_203 (by decide) ?_
                              have e1 := Option.some.inj h
                              exact e_i hx hb hr hlk hw hS e1 rfl dX5_question_205
                            · replace h := t_neg h q22
                              refine lv_aload_n hx hb dX5_question_196 rfl (lv_at hl 0 rfl) ?_
                              refine r_get hx hb hts hown hK hw (v_qu (by decide) (vin q4)) rfl (E_qu (by decide)) inX3 rfl 7 (by decide) k_142 rfl rfl dX5_question_197 ?_
                              refine lv_goto (tgt := 205) hx hb dX5_question_200 (by decide) ?_
                              have e1 := Option.some.inj h
                              exact e_i hx hb hr hlk hw hS e1 rfl dX5_question_205
                          · replace h := t_neg h q15
                            by_cases q16 : p1 = (nI 11)
                            · replace h := t_pos h q16
                              refine lv_tableIn (off := 182) (tgt := 206) hx hb dX5_question_24 (by rw [q16]; decide) (by rw [q16]; decide) (by rw [q16]; rfl) (by decide) ?_
                              refine lv_aload_n hx hb dX5_question_206 rfl (lv_at hl 1 rfl) ?_
                              refine r_get hx hb hts hown hK hw (v_mn (by decide)) rfl E_mn inX5 rfl 1 (by decide) k_206 rfl rfl dX5_question_207 ?_
                              refine lv_aload_n hx hb dX5_question_210 rfl (lv_at hl 0 rfl) ?_
                              refine r_get hx hb hts hown hK hw (v_qu (by decide) (vin q4)) rfl (E_qu (by decide)) inX3 rfl 1 (by decide) k_125 rfl rfl dX5_question_211 ?_
                              obtain ⟨r21, y20, h⟩ := t_b1 h
                              refine c_vi hx hb hml hown hts hK hw hS (fun _ h => h) (As := [.int (M 0 (19 + p0.toNatClampNeg) 1)]) (rest := []) (c_X4_rows hcv (g := 0) (hg := (by decide)) (M0 := M) (m := M 0) (hm := rfl) y20) cf_X4_rows k_370 rfl rfl ⟨Nat.le_of_ble_eq_true rfl, Nat.le_of_ble_eq_true rfl⟩ (r_recv hK hw (v_st (by decide) (by decide)) (E_st (by decide)) rfl) rfl hl.1 rfl (Nat.le_of_ble_eq_true rfl) ⟨Nat.le_refl _, Nat.le_refl _⟩ dX5_question_214 (fun H locs hw hS => ?_)
                              have e1 := Option.some.inj h
                              exact e_i hx hb hr hlk hw hS e1 rfl dX5_question_217
                            · replace h := t_neg h q16
                              by_cases q17 : p1 = (nI 12)
                              · replace h := t_pos h q17
                                refine lv_tableIn (off := 194) (tgt := 218) hx hb dX5_question_24 (by rw [q17]; decide) (by rw [q17]; decide) (by rw [q17]; rfl) (by decide) ?_
                                refine lv_aload_n hx hb dX5_question_218 rfl (lv_at hl 1 rfl) ?_
                                refine r_get hx hb hts hown hK hw (v_mn (by decide)) rfl E_mn inX5 rfl 1 (by decide) k_206 rfl rfl dX5_question_219 ?_
                                refine lv_aload_n hx hb dX5_question_222 rfl (lv_at hl 0 rfl) ?_
                                refine r_get hx hb hts hown hK hw (v_qu (by decide) (vin q4)) rfl (E_qu (by decide)) inX3 rfl 1 (by decide) k_125 rfl rfl dX5_question_223 ?_
                                obtain ⟨r19, y18, h⟩ := t_b1 h
                                refine c_vi hx hb hml hown hts hK hw hS (fun _ h => h) (As := [.int (M 0 (19 + p0.toNatClampNeg) 1)]) (rest := []) (c_X4_readRows hcv (g := 0) (hg := (by decide)) (M0 := M) (m := M 0) (hm := rfl) y18) cf_X4_readRows k_371 rfl rfl ⟨Nat.le_of_ble_eq_true rfl, Nat.le_of_ble_eq_true rfl⟩ (r_recv hK hw (v_st (by decide) (by decide)) (E_st (by decide)) rfl) rfl hl.1 rfl (Nat.le_of_ble_eq_true rfl) ⟨Nat.le_refl _, Nat.le_refl _⟩ dX5_question_226 (fun H locs hw hS => ?_)
                                have e1 := Option.some.inj h
                                exact e_i hx hb hr hlk hw hS e1 rfl dX5_question_229
                              · replace h := t_neg h q17
                                refine lv_tableOut (tgt := 230) hx hb dX5_question_24 (tab_out (lo := 0) (n := 13) (by decide) (lt_s (lt_s (lt_s (lt_s (lt_s (lt_s (lt_s (lt_s (lt_s (lt_s (lt_s (lt_s (lt_s lt_0 q5) q6) q7) q8) q9) q10) q11) q12) q13) q14) q15) q16) q17)) (by decide) ?_
                                refine lv_bipush (v := -2) hx hb dX5_question_230 (by decide) ?_
                                have e1 := Option.some.inj h
                                exact e_i hx hb hr hlk hw hS e1 rfl dX5_question_232
    · replace h := t_pos h q3
      refine lv_iconst (v := -1) hx hb dX5_question_11 (by decide) ?_
      have e1 := Option.some.inj h
      exact e_i hx hb hr hlk hw hS e1 rfl dX5_question_12
  exact main _ _ hw hS ls hl

theorem cf_X5_next : cfV RX5 yX5_next cX5_next 3 (some .int) 1 := ⟨⟨k_376, k_377, k_1, k_378⟩, by decide +kernel⟩
def f_X5_next (M : MM) (p0 : Int32) : Option (Int32) :=
  b1 (f_X5_isFromTo p0 (nI 0) (nI 1)) fun r2 => (if r2 = (nI 0) then some (-2 : Int32) else b1 (f_X4_nextBlock (M 0)) fun r5 => b1 (f_X4_hasBlock (M 0) r5) fun r7 => (if r7 = (nI 0) then some (-5 : Int32) else (if p0 = (nI 0) then some r5 else gd r5 8 (some (M 0 (3 + r5.toNatClampNeg) 5)))))
set_option maxHeartbeats 4000000 in
set_option maxRecDepth 100000 in
theorem c_X5_next {l : Launch} {D : va_G} {cy : Nat → ClassId} {ad : Nat → Nat → Nat} (hcv : CV ad) {M : MM} {p0 : Int32} {r : Int32} (h : f_X5_next M p0 = some r) : Met l yX5_next (.code yX5_next cX5_next 3 (some .int) :: TB) ({ frames := 4, cells := 0, slots := 0, locals := 90 } : Room) (PW D cy ad M [.ref (ad 8 0), .int p0]) (QI D cy ad r M) 0 0 (AD ad) := by
  refine m_in (by decide +kernel) (Nat.le_of_ble_eq_true rfl) ?_
  intro p e s md args below meth c hC hw hS ls hl
  obtain ⟨hx, hb, hr, hml, hown, hts, hK, hlk⟩ := hC
  have hl : lv_has ls 3 [(0, .ref (ad 8 0)), (1, .int p0)] := hl
  unfold f_X5_next at h
  have main : JL p l e ({ frames := 4, cells := 0, slots := 0, locals := 90 } : Room) s md args below meth c D cy ad (MQ below (QI D cy ad r M) args s 0 0 (AD ad)) (M) 3 [(0, .ref (ad 8 0)), (1, .int p0)] 0 [] := by
    intro H locs hw hS ls hl
    refine lv_iload_n hx hb dX5_next_0 rfl (lv_at hl 1 rfl) ?_
    refine lv_iconst (v := nI 0) hx hb dX5_next_1 (by decide) ?_
    refine lv_iconst (v := nI 1) hx hb dX5_next_2 (by decide) ?_
    obtain ⟨r2, y1, h⟩ := t_b1 h
    refine c_si hx hb hml hown hts hK hw hS (fun _ h => h) (As := [.int p0, .int (nI 0), .int (nI 1)]) (rest := []) (c_X5_isFromTo hcv (M0 := M) y1) cf_X5_isFromTo k_228 rfl rfl ⟨Nat.le_of_ble_eq_true rfl, Nat.le_of_ble_eq_true rfl⟩ rfl hl.1 rfl (Nat.le_of_ble_eq_true rfl) ⟨Nat.le_refl _, Nat.le_refl _⟩ dX5_next_3 (fun H locs hw hS => ?_)
    refine lv_if_ne (tgt := 12) hx hb dX5_next_6 (by decide) (fun q3 => ?_) (fun q3 => ?_)
    · replace h := t_neg h q3
      refine lv_aload_n hx hb dX5_next_12 rfl (lv_at hl 0 rfl) ?_
      refine r_get hx hb hts hown hK hw (v_mn (by decide)) rfl E_mn inX5 rfl 1 (by decide) k_206 rfl rfl dX5_next_13 ?_
      obtain ⟨r5, y4, h⟩ := t_b1 h
      refine c_vi hx hb hml hown hts hK hw hS (fun _ h => h) (As := []) (rest := []) (c_X4_nextBlock hcv (g := 0) (hg := (by decide)) (M0 := M) (m := M 0) (hm := rfl) y4) cf_X4_nextBlock k_297 rfl rfl ⟨Nat.le_of_ble_eq_true rfl, Nat.le_of_ble_eq_true rfl⟩ (r_recv hK hw (v_st (by decide) (by decide)) (E_st (by decide)) rfl) rfl hl.1 rfl (Nat.le_of_ble_eq_true rfl) ⟨Nat.le_refl _, Nat.le_refl _⟩ dX5_next_16 (fun H locs hw hS => ?_)
      refine lv_istore_n (lv' := [(2, .int r5), (0, .ref (ad 8 0)), (1, .int p0)]) hx hb dX5_next_19 rfl hl (by decide) rfl (fun ls hl => ?_)
      refine lv_aload_n hx hb dX5_next_20 rfl (lv_at hl 1 rfl) ?_
      refine r_get hx hb hts hown hK hw (v_mn (by decide)) rfl E_mn inX5 rfl 1 (by decide) k_206 rfl rfl dX5_next_21 ?_
      refine lv_iload_n hx hb dX5_next_24 rfl (lv_at hl 0 rfl) ?_
      obtain ⟨r7, y6, h⟩ := t_b1 h
      refine c_vi hx hb hml hown hts hK hw hS (fun _ h => h) (As := [.int r5]) (rest := []) (c_X4_hasBlock hcv (g := 0) (hg := (by decide)) (M0 := M) (m := M 0) (hm := rfl) y6) cf_X4_hasBlock k_351 rfl rfl ⟨Nat.le_of_ble_eq_true rfl, Nat.le_of_ble_eq_true rfl⟩ (r_recv hK hw (v_st (by decide) (by decide)) (E_st (by decide)) rfl) rfl hl.1 rfl (Nat.le_of_ble_eq_true rfl) ⟨Nat.le_refl _, Nat.le_refl _⟩ dX5_next_25 (fun H locs hw hS => ?_)
      refine lv_if_ne (tgt := 34) hx hb dX5_next_28 (by decide) (fun q8 => ?_) (fun q8 => ?_)
      · replace h := t_neg h q8
        refine lv_iload_n hx hb dX5_next_34 rfl (lv_at hl 2 rfl) ?_
        refine lv_if_ne (tgt := 42) hx hb dX5_next_35 (by decide) (fun q9 => ?_) (fun q9 => ?_)
        · replace h := t_neg h q9
          refine lv_aload_n hx hb dX5_next_42 rfl (lv_at hl 1 rfl) ?_
          refine r_get hx hb hts hown hK hw (v_mn (by decide)) rfl E_mn inX5 rfl 1 (by decide) k_206 rfl rfl dX5_next_43 ?_
          refine r_get hx hb hts hown hK hw (v_st (by decide) (by decide)) rfl (E_st (by decide)) inX4 rfl 0 (by decide) k_161 rfl rfl dX5_next_46 ?_
          refine lv_iload_n hx hb dX5_next_49 rfl (lv_at hl 0 rfl) ?_
          obtain ⟨q10, h⟩ := t_gd h
          refine r_aald hx hb hK hw (v_st (by decide) (by decide)) (t0 := 2) rfl (E_ba (by decide)) (v := .ref (ad 0 (3 + r5.toNatClampNeg))) rfl q10 dX5_next_50 ?_
          refine r_get hx hb hts hown hK hw (v_bk (by decide) (vin q10)) rfl (E_bk (by decide) (vin q10)) inX0 rfl 5 (by decide) k_90 rfl rfl dX5_next_51 ?_
          have e1 := Option.some.inj h
          exact e_i hx hb hr hlk hw hS e1 rfl dX5_next_54
        · replace h := t_pos h q9
          refine lv_iload_n hx hb dX5_next_38 rfl (lv_at hl 0 rfl) ?_
          refine lv_goto (tgt := 54) hx hb dX5_next_39 (by decide) ?_
          have e1 := Option.some.inj h
          exact e_i hx hb hr hlk hw hS e1 rfl dX5_next_54
      · replace h := t_pos h q8
        refine lv_bipush (v := -5) hx hb dX5_next_31 (by decide) ?_
        have e1 := Option.some.inj h
        exact e_i hx hb hr hlk hw hS e1 rfl dX5_next_33
    · replace h := t_pos h q3
      refine lv_bipush (v := -2) hx hb dX5_next_9 (by decide) ?_
      have e1 := Option.some.inj h
      exact e_i hx hb hr hlk hw hS e1 rfl dX5_next_11
  exact main _ _ hw hS ls hl

theorem cf_X5_stopsIn : cfV RX5 yX5_stopsIn cX5_stopsIn 4 (some .int) 1 := ⟨⟨k_380, k_381, k_1, k_382⟩, by decide +kernel⟩
def f_X5_stopsIn_L54 (p0 : Int32) : Nat → MM → Nat → Int32 → Option (Int32 × MM)
  | 0, _, _, _ => none
  | n + 1, M, i2, x3 => (if (nI 128) < x3 then some ((-5 : Int32), M) else bd (f_X4_readByPlan (M 1)) fun r3 m4 => lt1 (gs M 1 m4) fun M5 => (if r3 = (nI 0) then some ((-5 : Int32), M5) else (if (M5 1 (19 + i2) 4) = (nI 0) then f_X5_stopsIn_L54 p0 n M5 i2 (x3 + (nI 1)) else some (x3, M5))))
def f_X5_stopsIn (M : MM) (p0 : Int32) : Option (Int32 × MM) :=
  b1 (f_X4_hasQuestion (M 0) p0) fun r2 => (if r2 = (nI 0) then some ((-1 : Int32), M) else gd p0 6 ((if (M 0 (19 + p0.toNatClampNeg) 4) = (nI 0) then bd (f_X4_copyFrom (M 1) (M 0)) fun r7 m8 => lt1 (gs M 1 m8) fun M9 => gd p0 6 (f_X5_stopsIn_L54 p0 FU M9 p0.toNatClampNeg (nI 1)) else some ((-4 : Int32), M))))
set_option maxHeartbeats 4000000 in
set_option maxRecDepth 100000 in
theorem c_X5_stopsIn {l : Launch} {D : va_G} {cy : Nat → ClassId} {ad : Nat → Nat → Nat} (hcv : CV ad) {M : MM} {p0 : Int32} {r : Int32} {x : MM} (h : f_X5_stopsIn M p0 = some (r, x)) : Met l yX5_stopsIn (.code yX5_stopsIn cX5_stopsIn 4 (some .int) :: TB) ({ frames := 5, cells := 0, slots := 0, locals := 119 } : Room) (PW D cy ad M [.ref (ad 8 0), .int p0]) (QI D cy ad r x) 0 0 (AD ad) := by
  refine m_in (by decide +kernel) (Nat.le_of_ble_eq_true rfl) ?_
  intro p e s md args below meth c hC hw hS ls hl
  obtain ⟨hx, hb, hr, hml, hown, hts, hK, hlk⟩ := hC
  have hl : lv_has ls 4 [(0, .ref (ad 8 0)), (1, .int p0)] := hl
  have L54 : ∀ (n : Nat), ∀ (M : MM) (i2 : Nat) (hi2 : i2 < 6) (x3 : Int32), f_X5_stopsIn_L54 p0 n M i2 x3 = some (r, x) → JL p l e ({ frames := 5, cells := 0, slots := 0, locals := 119 } : Room) s md args below meth c D cy ad (MQ below (QI D cy ad r x) args s 0 0 (AD ad)) (M) 4 [(0, .ref (ad 8 0)), (2, .ref (ad 1 (19 + i2))), (3, .int x3)] 54 [] := by
    intro n
    induction n with
    | zero =>
      intro M i2 hi2 x3 h
      cases h
    | succ n ih =>
      intro M i2 hi2 x3 h H locs hw hS ls hl
      rw [f_X5_stopsIn_L54.eq_2] at h
      refine lv_iload_n hx hb dX5_stopsIn_54 rfl (lv_at hl 2 rfl) ?_
      refine lv_sipush (v := nI 128) hx hb dX5_stopsIn_55 (by decide) ?_
      refine lv_icmp_gt (tgt := 86) hx hb dX5_stopsIn_58 (by decide) (fun q1 => ?_) (fun q1 => ?_)
      · replace h := t_pos h q1
        refine lv_bipush (v := -5) hx hb dX5_stopsIn_86 (by decide) ?_
        have e1 := (t_ret h).1
        have e2 := (t_ret h).2
        exact e_i hx hb hr hlk hw hS e1 e2 dX5_stopsIn_88
      · replace h := t_neg h q1
        refine lv_aload_n hx hb dX5_stopsIn_61 rfl (lv_at hl 0 rfl) ?_
        refine r_get hx hb hts hown hK hw (v_mn (by decide)) rfl E_mn inX5 rfl 2 (by decide) k_207 rfl rfl dX5_stopsIn_62 ?_
        obtain ⟨r3, m4, y2, h⟩ := t_bd h
        obtain ⟨M5, e6, h⟩ := t_lt h
        refine c_vi hx hb hml hown hts hK hw hS (fun _ h => h) (As := []) (rest := []) (c_X4_readByPlan hcv (g := 1) (hg := (by decide)) (M0 := M) (m := M 1) (hm := rfl) y2) cf_X4_readByPlan k_318 rfl rfl ⟨Nat.le_of_ble_eq_true rfl, Nat.le_of_ble_eq_true rfl⟩ (r_recv hK hw (v_st (by decide) (by decide)) (E_st (by decide)) rfl) rfl hl.1 rfl (Nat.le_of_ble_eq_true rfl) ⟨Nat.le_refl _, Nat.le_refl _⟩ dX5_stopsIn_65 (fun H locs hw hS => ?_)
        rw [← e6] at hw
        refine lv_if_eq (tgt := 86) hx hb dX5_stopsIn_68 (by decide) (fun q7 => ?_) (fun q7 => ?_)
        · replace h := t_pos h q7
          refine lv_bipush (v := -5) hx hb dX5_stopsIn_86 (by decide) ?_
          have e1 := (t_ret h).1
          have e2 := (t_ret h).2
          exact e_i hx hb hr hlk hw hS e1 e2 dX5_stopsIn_88
        · replace h := t_neg h q7
          refine lv_aload_n hx hb dX5_stopsIn_71 rfl (lv_at hl 1 rfl) ?_
          refine r_get hx hb hts hown hK hw (v_qu (by decide) hi2) rfl (E_qu (by decide)) inX3 rfl 4 (by decide) k_134 rfl rfl dX5_stopsIn_72 ?_
          refine lv_if_eq (tgt := 80) hx hb dX5_stopsIn_75 (by decide) (fun q8 => ?_) (fun q8 => ?_)
          · replace h := t_pos h q8
            refine lv_iinc (v := (x3 + (nI 1))) (lv' := [(3, .int (x3 + (nI 1))), (0, .ref (ad 8 0)), (2, .ref (ad 1 (19 + i2)))]) hx hb dX5_stopsIn_80 hl (k := 2) rfl rfl (by decide) rfl (fun ls hl => ?_)
            refine lv_goto (tgt := 54) hx hb dX5_stopsIn_83 (by decide) ?_
            exact ih M5 i2 hi2 (x3 + (nI 1)) h H locs hw hS ls (lv_sub hl [1, 2, 0] rfl)
          · replace h := t_neg h q8
            refine lv_iload_n hx hb dX5_stopsIn_78 rfl (lv_at hl 2 rfl) ?_
            have e1 := (t_ret h).1
            have e2 := (t_ret h).2
            exact e_i hx hb hr hlk hw hS e1 e2 dX5_stopsIn_79
  unfold f_X5_stopsIn at h
  have main : JL p l e ({ frames := 5, cells := 0, slots := 0, locals := 119 } : Room) s md args below meth c D cy ad (MQ below (QI D cy ad r x) args s 0 0 (AD ad)) (M) 4 [(0, .ref (ad 8 0)), (1, .int p0)] 0 [] := by
    intro H locs hw hS ls hl
    refine lv_aload_n hx hb dX5_stopsIn_0 rfl (lv_at hl 0 rfl) ?_
    refine r_get hx hb hts hown hK hw (v_mn (by decide)) rfl E_mn inX5 rfl 1 (by decide) k_206 rfl rfl dX5_stopsIn_1 ?_
    refine lv_iload_n hx hb dX5_stopsIn_4 rfl (lv_at hl 1 rfl) ?_
    obtain ⟨r2, y1, h⟩ := t_b1 h
    refine c_vi hx hb hml hown hts hK hw hS (fun _ h => h) (As := [.int p0]) (rest := []) (c_X4_hasQuestion hcv (g := 0) (hg := (by decide)) (M0 := M) (m := M 0) (hm := rfl) y1) cf_X4_hasQuestion k_365 rfl rfl ⟨Nat.le_of_ble_eq_true rfl, Nat.le_of_ble_eq_true rfl⟩ (r_recv hK hw (v_st (by decide) (by decide)) (E_st (by decide)) rfl) rfl hl.1 rfl (Nat.le_of_ble_eq_true rfl) ⟨Nat.le_refl _, Nat.le_refl _⟩ dX5_stopsIn_5 (fun H locs hw hS => ?_)
    refine lv_if_ne (tgt := 13) hx hb dX5_stopsIn_8 (by decide) (fun q3 => ?_) (fun q3 => ?_)
    · replace h := t_neg h q3
      refine lv_aload_n hx hb dX5_stopsIn_13 rfl (lv_at hl 0 rfl) ?_
      refine r_get hx hb hts hown hK hw (v_mn (by decide)) rfl E_mn inX5 rfl 1 (by decide) k_206 rfl rfl dX5_stopsIn_14 ?_
      refine r_get hx hb hts hown hK hw (v_st (by decide) (by decide)) rfl (E_st (by decide)) inX4 rfl 1 (by decide) k_163 rfl rfl dX5_stopsIn_17 ?_
      refine lv_iload_n hx hb dX5_stopsIn_20 rfl (lv_at hl 1 rfl) ?_
      obtain ⟨q4, h⟩ := t_gd h
      refine r_aald hx hb hK hw (v_st (by decide) (by decide)) (t0 := 3) rfl (E_qa (by decide)) (v := .ref (ad 0 (19 + p0.toNatClampNeg))) rfl q4 dX5_stopsIn_21 ?_
      refine r_get hx hb hts hown hK hw (v_qu (by decide) (vin q4)) rfl (E_qu (by decide)) inX3 rfl 4 (by decide) k_134 rfl rfl dX5_stopsIn_22 ?_
      refine lv_if_eq (tgt := 31) hx hb dX5_stopsIn_25 (by decide) (fun q5 => ?_) (fun q5 => ?_)
      · replace h := t_pos h q5
        refine lv_aload_n hx hb dX5_stopsIn_31 rfl (lv_at hl 0 rfl) ?_
        refine r_get hx hb hts hown hK hw (v_mn (by decide)) rfl E_mn inX5 rfl 2 (by decide) k_207 rfl rfl dX5_stopsIn_32 ?_
        refine lv_aload_n hx hb dX5_stopsIn_35 rfl (lv_at hl 0 rfl) ?_
        refine r_get hx hb hts hown hK hw (v_mn (by decide)) rfl E_mn inX5 rfl 1 (by decide) k_206 rfl rfl dX5_stopsIn_36 ?_
        obtain ⟨r7, m8, y6, h⟩ := t_bd h
        obtain ⟨M9, e10, h⟩ := t_lt h
        refine c_vv hx hb hml hown hts hK hw hS (fun _ h => h) (As := [.ref (ad 0 0)]) (rest := []) (c_X4_copyFrom hcv (g := 1) (hg := (by decide)) (g2 := 0) (hg2 := (by decide)) (M0 := M) (m := M 1) (hm := rfl) (mz := M 0) (hne := by omega) (hm2 := rfl) y6) cf_X4_copyFrom k_383 rfl rfl ⟨Nat.le_of_ble_eq_true rfl, Nat.le_of_ble_eq_true rfl⟩ (r_recv hK hw (v_st (by decide) (by decide)) (E_st (by decide)) rfl) rfl hl.1 rfl (Nat.le_of_ble_eq_true rfl) ⟨Nat.le_refl _, Nat.le_refl _⟩ dX5_stopsIn_39 (fun H locs hw hS => ?_)
        rw [← e10] at hw
        refine lv_aload_n hx hb dX5_stopsIn_42 rfl (lv_at hl 0 rfl) ?_
        refine r_get hx hb hts hown hK hw (v_mn (by decide)) rfl E_mn inX5 rfl 2 (by decide) k_207 rfl rfl dX5_stopsIn_43 ?_
        refine r_get hx hb hts hown hK hw (v_st (by decide) (by decide)) rfl (E_st (by decide)) inX4 rfl 1 (by decide) k_163 rfl rfl dX5_stopsIn_46 ?_
        refine lv_iload_n hx hb dX5_stopsIn_49 rfl (lv_at hl 1 rfl) ?_
        obtain ⟨q11, h⟩ := t_gd h
        refine r_aald hx hb hK hw (v_st (by decide) (by decide)) (t0 := 3) rfl (E_qa (by decide)) (v := .ref (ad 1 (19 + p0.toNatClampNeg))) rfl q11 dX5_stopsIn_50 ?_
        refine lv_astore_n (lv' := [(2, .ref (ad 1 (19 + p0.toNatClampNeg))), (0, .ref (ad 8 0)), (1, .int p0)]) hx hb dX5_stopsIn_51 rfl hl (by decide) rfl (fun ls hl => ?_)
        refine lv_iconst (v := nI 1) hx hb dX5_stopsIn_52 (by decide) ?_
        refine lv_istore_n (lv' := [(3, .int (nI 1)), (2, .ref (ad 1 (19 + p0.toNatClampNeg))), (0, .ref (ad 8 0)), (1, .int p0)]) hx hb dX5_stopsIn_53 rfl hl (by decide) rfl (fun ls hl => ?_)
        exact L54 FU M9 p0.toNatClampNeg (vin q11) (nI 1) h H locs hw hS ls (lv_sub hl [2, 1, 0] rfl)
      · replace h := t_neg h q5
        refine lv_bipush (v := -4) hx hb dX5_stopsIn_28 (by decide) ?_
        have e1 := (t_ret h).1
        have e2 := (t_ret h).2
        exact e_i hx hb hr hlk hw hS e1 e2 dX5_stopsIn_30
    · replace h := t_pos h q3
      refine lv_iconst (v := -1) hx hb dX5_stopsIn_11 (by decide) ?_
      have e1 := (t_ret h).1
      have e2 := (t_ret h).2
      exact e_i hx hb hr hlk hw hS e1 e2 dX5_stopsIn_12
  exact main _ _ hw hS ls hl

theorem cf_X5_best : cfV RX5 yX5_best cX5_best 6 (some .int) 1 := ⟨⟨k_385, k_386, k_1, k_387⟩, by decide +kernel⟩
def f_X5_best_L98 (p0 : Int32) (M : MM) (x2 : Int32) (x3 : Int32) : Option (Int32 × MM) :=
  (if x2 = (-5 : Int32) then some ((-5 : Int32), M) else (if p0 = (nI 0) then some (x2, M) else some (x3, M)))
def f_X5_best_L35 (p0 : Int32) : Nat → MM → Int32 → Int32 → Int32 → Option (Int32 × MM)
  | 0, _, _, _, _ => none
  | n + 1, M, x2, x3, x4 => (if (nI 2) < x4 then f_X5_best_L98 p0 M x2 x3 else bd (f_X4_copyFrom (M 1) (M 0)) fun r3 m4 => lt1 (gs M 1 m4) fun M5 => lt1 (gs M5 1 (up (M5 1) 0 4 x4)) fun M8 => bd (f_X4_readWhileOpen (M8 1)) fun r10 m11 => lt1 (gs M8 1 m11) fun M12 => b1 (f_X4_openQuestions (M12 1)) fun r15 => (if r15 = (nI 0) then (if x3 ≤ r10 then f_X5_best_L35 p0 n M12 x2 x3 (x4 + (nI 1)) else f_X5_best_L35 p0 n M12 x4 r10 (x4 + (nI 1))) else f_X5_best_L35 p0 n M12 x2 x3 (x4 + (nI 1))))
def f_X5_best (M : MM) (p0 : Int32) : Option (Int32 × MM) :=
  b1 (f_X5_isFromTo p0 (nI 0) (nI 1)) fun r2 => (if r2 = (nI 0) then some ((-2 : Int32), M) else b1 (f_X4_openQuestions (M 0)) fun r5 => (if r5 = (nI 0) then some ((-4 : Int32), M) else f_X5_best_L35 p0 FU M (-5 : Int32) (nI 129) (nI 0)))
set_option maxHeartbeats 4000000 in
set_option maxRecDepth 100000 in
theorem c_X5_best {l : Launch} {D : va_G} {cy : Nat → ClassId} {ad : Nat → Nat → Nat} (hcv : CV ad) {M : MM} {p0 : Int32} {r : Int32} {x : MM} (h : f_X5_best M p0 = some (r, x)) : Met l yX5_best (.code yX5_best cX5_best 6 (some .int) :: TB) ({ frames := 6, cells := 0, slots := 0, locals := 141 } : Room) (PW D cy ad M [.ref (ad 8 0), .int p0]) (QI D cy ad r x) 0 0 (AD ad) := by
  refine m_in (by decide +kernel) (Nat.le_of_ble_eq_true rfl) ?_
  intro p e s md args below meth c hC hw hS ls hl
  obtain ⟨hx, hb, hr, hml, hown, hts, hK, hlk⟩ := hC
  have hl : lv_has ls 6 [(0, .ref (ad 8 0)), (1, .int p0)] := hl
  have L98 : ∀ (M : MM) (x2 : Int32) (x3 : Int32), f_X5_best_L98 p0 M x2 x3 = some (r, x) → JL p l e ({ frames := 6, cells := 0, slots := 0, locals := 141 } : Room) s md args below meth c D cy ad (MQ below (QI D cy ad r x) args s 0 0 (AD ad)) (M) 6 [(1, .int p0), (2, .int x2), (3, .int x3)] 98 [] := by
    intro M x2 x3 h H locs hw hS ls hl
    unfold f_X5_best_L98 at h
    refine lv_iload_n hx hb dX5_best_98 rfl (lv_at hl 1 rfl) ?_
    refine lv_bipush (v := -5) hx hb dX5_best_99 (by decide) ?_
    refine lv_icmp_ne (tgt := 107) hx hb dX5_best_101 (by decide) (fun q1 => ?_) (fun q1 => ?_)
    · replace h := t_neg h q1
      refine lv_iload_n hx hb dX5_best_107 rfl (lv_at hl 0 rfl) ?_
      refine lv_if_ne (tgt := 115) hx hb dX5_best_108 (by decide) (fun q2 => ?_) (fun q2 => ?_)
      · replace h := t_neg h q2
        refine lv_iload_n hx hb dX5_best_115 rfl (lv_at hl 2 rfl) ?_
        have e1 := (t_ret h).1
        have e2 := (t_ret h).2
        exact e_i hx hb hr hlk hw hS e1 e2 dX5_best_116
      · replace h := t_pos h q2
        refine lv_iload_n hx hb dX5_best_111 rfl (lv_at hl 1 rfl) ?_
        refine lv_goto (tgt := 116) hx hb dX5_best_112 (by decide) ?_
        have e1 := (t_ret h).1
        have e2 := (t_ret h).2
        exact e_i hx hb hr hlk hw hS e1 e2 dX5_best_116
    · replace h := t_pos h q1
      refine lv_bipush (v := -5) hx hb dX5_best_104 (by decide) ?_
      have e1 := (t_ret h).1
      have e2 := (t_ret h).2
      exact e_i hx hb hr hlk hw hS e1 e2 dX5_best_106
  have L35 : ∀ (n : Nat), ∀ (M : MM) (x2 : Int32) (x3 : Int32) (x4 : Int32), f_X5_best_L35 p0 n M x2 x3 x4 = some (r, x) → JL p l e ({ frames := 6, cells := 0, slots := 0, locals := 141 } : Room) s md args below meth c D cy ad (MQ below (QI D cy ad r x) args s 0 0 (AD ad)) (M) 6 [(0, .ref (ad 8 0)), (1, .int p0), (2, .int x2), (3, .int x3), (4, .int x4)] 35 [] := by
    intro n
    induction n with
    | zero =>
      intro M x2 x3 x4 h
      cases h
    | succ n ih =>
      intro M x2 x3 x4 h H locs hw hS ls hl
      rw [f_X5_best_L35.eq_2] at h
      refine lv_iload hx hb dX5_best_35 (lv_at hl 4 rfl) ?_
      refine lv_iconst (v := nI 2) hx hb dX5_best_37 (by decide) ?_
      refine lv_icmp_gt (tgt := 98) hx hb dX5_best_38 (by decide) (fun q1 => ?_) (fun q1 => ?_)
      · replace h := t_pos h q1
        exact L98 M x2 x3 h H locs hw hS ls (lv_sub hl [1, 2, 3] rfl)
      · replace h := t_neg h q1
        refine lv_aload_n hx hb dX5_best_41 rfl (lv_at hl 0 rfl) ?_
        refine r_get hx hb hts hown hK hw (v_mn (by decide)) rfl E_mn inX5 rfl 2 (by decide) k_207 rfl rfl dX5_best_42 ?_
        refine lv_aload_n hx hb dX5_best_45 rfl (lv_at hl 0 rfl) ?_
        refine r_get hx hb hts hown hK hw (v_mn (by decide)) rfl E_mn inX5 rfl 1 (by decide) k_206 rfl rfl dX5_best_46 ?_
        obtain ⟨r3, m4, y2, h⟩ := t_bd h
        obtain ⟨M5, e6, h⟩ := t_lt h
        refine c_vv hx hb hml hown hts hK hw hS (fun _ h => h) (As := [.ref (ad 0 0)]) (rest := []) (c_X4_copyFrom hcv (g := 1) (hg := (by decide)) (g2 := 0) (hg2 := (by decide)) (M0 := M) (m := M 1) (hm := rfl) (mz := M 0) (hne := by omega) (hm2 := rfl) y2) cf_X4_copyFrom k_383 rfl rfl ⟨Nat.le_of_ble_eq_true rfl, Nat.le_of_ble_eq_true rfl⟩ (r_recv hK hw (v_st (by decide) (by decide)) (E_st (by decide)) rfl) rfl hl.1 rfl (Nat.le_of_ble_eq_true rfl) ⟨Nat.le_refl _, Nat.le_refl _⟩ dX5_best_49 (fun H locs hw hS => ?_)
        rw [← e6] at hw
        refine lv_aload_n hx hb dX5_best_52 rfl (lv_at hl 0 rfl) ?_
        refine r_get hx hb hts hown hK hw (v_mn (by decide)) rfl E_mn inX5 rfl 2 (by decide) k_207 rfl rfl dX5_best_53 ?_
        refine lv_iload hx hb dX5_best_56 (lv_at hl 4 rfl) ?_
        obtain ⟨M8, e7, h⟩ := t_lt h
        refine r_put hx hb hts hown hK hcv hw hS (v_st (by decide) (by decide)) rfl (E_st (by decide)) inX4 rfl tyX4 tyX4_ok nmX4 4 (by decide) k_169 rfl rfl rfl rfl (Nat.le_of_ble_eq_true rfl) (E_st (by decide)) e7.symm dX5_best_58 (fun H locs hw hS => ?_)
        refine lv_aload_n hx hb dX5_best_61 rfl (lv_at hl 0 rfl) ?_
        refine r_get hx hb hts hown hK hw (v_mn (by decide)) rfl E_mn inX5 rfl 2 (by decide) k_207 rfl rfl dX5_best_62 ?_
        obtain ⟨r10, m11, y9, h⟩ := t_bd h
        obtain ⟨M12, e13, h⟩ := t_lt h
        refine c_vi hx hb hml hown hts hK hw hS (fun _ h => h) (As := []) (rest := []) (c_X4_readWhileOpen hcv (g := 1) (hg := (by decide)) (M0 := M8) (m := M8 1) (hm := rfl) y9) cf_X4_readWhileOpen k_341 rfl rfl ⟨Nat.le_of_ble_eq_true rfl, Nat.le_of_ble_eq_true rfl⟩ (r_recv hK hw (v_st (by decide) (by decide)) (E_st (by decide)) rfl) rfl hl.1 rfl (Nat.le_of_ble_eq_true rfl) ⟨Nat.le_refl _, Nat.le_refl _⟩ dX5_best_65 (fun H locs hw hS => ?_)
        rw [← e13] at hw
        refine lv_istore (lv' := [(5, .int r10), (0, .ref (ad 8 0)), (1, .int p0), (2, .int x2), (3, .int x3), (4, .int x4)]) hx hb dX5_best_68 hl (by decide) rfl (fun ls hl => ?_)
        refine lv_aload_n hx hb dX5_best_70 rfl (lv_at hl 1 rfl) ?_
        refine r_get hx hb hts hown hK hw (v_mn (by decide)) rfl E_mn inX5 rfl 2 (by decide) k_207 rfl rfl dX5_best_71 ?_
        obtain ⟨r15, y14, h⟩ := t_b1 h
        refine c_vi hx hb hml hown hts hK hw hS (fun _ h => h) (As := []) (rest := []) (c_X4_openQuestions hcv (g := 1) (hg := (by decide)) (M0 := M12) (m := M12 1) (hm := rfl) y14) cf_X4_openQuestions k_337 rfl rfl ⟨Nat.le_of_ble_eq_true rfl, Nat.le_of_ble_eq_true rfl⟩ (r_recv hK hw (v_st (by decide) (by decide)) (E_st (by decide)) rfl) rfl hl.1 rfl (Nat.le_of_ble_eq_true rfl) ⟨Nat.le_refl _, Nat.le_refl _⟩ dX5_best_74 (fun H locs hw hS => ?_)
        refine lv_if_ne (tgt := 92) hx hb dX5_best_77 (by decide) (fun q16 => ?_) (fun q16 => ?_)
        · replace h := t_neg h q16
          refine lv_iinc (v := (x4 + (nI 1))) (lv' := [(4, .int (x4 + (nI 1))), (5, .int r10), (0, .ref (ad 8 0)), (1, .int p0), (2, .int x2), (3, .int x3)]) hx hb dX5_best_92 hl (k := 5) rfl rfl (by decide) rfl (fun ls hl => ?_)
          refine lv_goto (tgt := 35) hx hb dX5_best_95 (by decide) ?_
          exact ih M12 x2 x3 (x4 + (nI 1)) h H locs hw hS ls (lv_sub hl [2, 3, 4, 5, 0] rfl)
        · replace h := t_pos h q16
          refine lv_iload hx hb dX5_best_80 (lv_at hl 0 rfl) ?_
          refine lv_iload_n hx hb dX5_best_82 rfl (lv_at hl 4 rfl) ?_
          refine lv_icmp_ge (tgt := 92) hx hb dX5_best_83 (by decide) (fun q17 => ?_) (fun q17 => ?_)
          · replace h := t_pos h q17
            refine lv_iinc (v := (x4 + (nI 1))) (lv' := [(4, .int (x4 + (nI 1))), (5, .int r10), (0, .ref (ad 8 0)), (1, .int p0), (2, .int x2), (3, .int x3)]) hx hb dX5_best_92 hl (k := 5) rfl rfl (by decide) rfl (fun ls hl => ?_)
            refine lv_goto (tgt := 35) hx hb dX5_best_95 (by decide) ?_
            exact ih M12 x2 x3 (x4 + (nI 1)) h H locs hw hS ls (lv_sub hl [2, 3, 4, 5, 0] rfl)
          · replace h := t_neg h q17
            refine lv_iload hx hb dX5_best_86 (lv_at hl 5 rfl) ?_
            refine lv_istore_n (lv' := [(2, .int x4), (5, .int r10), (0, .ref (ad 8 0)), (1, .int p0), (3, .int x3), (4, .int x4)]) hx hb dX5_best_88 rfl hl (by decide) rfl (fun ls hl => ?_)
            refine lv_iload hx hb dX5_best_89 (lv_at hl 1 rfl) ?_
            refine lv_istore_n (lv' := [(3, .int r10), (2, .int x4), (5, .int r10), (0, .ref (ad 8 0)), (1, .int p0), (4, .int x4)]) hx hb dX5_best_91 rfl hl (by decide) rfl (fun ls hl => ?_)
            refine lv_iinc (v := (x4 + (nI 1))) (lv' := [(4, .int (x4 + (nI 1))), (3, .int r10), (2, .int x4), (5, .int r10), (0, .ref (ad 8 0)), (1, .int p0)]) hx hb dX5_best_92 hl (k := 5) rfl rfl (by decide) rfl (fun ls hl => ?_)
            refine lv_goto (tgt := 35) hx hb dX5_best_95 (by decide) ?_
            exact ih M12 x4 r10 (x4 + (nI 1)) h H locs hw hS ls (lv_sub hl [4, 5, 2, 1, 0] rfl)
  unfold f_X5_best at h
  have main : JL p l e ({ frames := 6, cells := 0, slots := 0, locals := 141 } : Room) s md args below meth c D cy ad (MQ below (QI D cy ad r x) args s 0 0 (AD ad)) (M) 6 [(0, .ref (ad 8 0)), (1, .int p0)] 0 [] := by
    intro H locs hw hS ls hl
    refine lv_iload_n hx hb dX5_best_0 rfl (lv_at hl 1 rfl) ?_
    refine lv_iconst (v := nI 0) hx hb dX5_best_1 (by decide) ?_
    refine lv_iconst (v := nI 1) hx hb dX5_best_2 (by decide) ?_
    obtain ⟨r2, y1, h⟩ := t_b1 h
    refine c_si hx hb hml hown hts hK hw hS (fun _ h => h) (As := [.int p0, .int (nI 0), .int (nI 1)]) (rest := []) (c_X5_isFromTo hcv (M0 := M) y1) cf_X5_isFromTo k_228 rfl rfl ⟨Nat.le_of_ble_eq_true rfl, Nat.le_of_ble_eq_true rfl⟩ rfl hl.1 rfl (Nat.le_of_ble_eq_true rfl) ⟨Nat.le_refl _, Nat.le_refl _⟩ dX5_best_3 (fun H locs hw hS => ?_)
    refine lv_if_ne (tgt := 12) hx hb dX5_best_6 (by decide) (fun q3 => ?_) (fun q3 => ?_)
    · replace h := t_neg h q3
      refine lv_aload_n hx hb dX5_best_12 rfl (lv_at hl 0 rfl) ?_
      refine r_get hx hb hts hown hK hw (v_mn (by decide)) rfl E_mn inX5 rfl 1 (by decide) k_206 rfl rfl dX5_best_13 ?_
      obtain ⟨r5, y4, h⟩ := t_b1 h
      refine c_vi hx hb hml hown hts hK hw hS (fun _ h => h) (As := []) (rest := []) (c_X4_openQuestions hcv (g := 0) (hg := (by decide)) (M0 := M) (m := M 0) (hm := rfl) y4) cf_X4_openQuestions k_337 rfl rfl ⟨Nat.le_of_ble_eq_true rfl, Nat.le_of_ble_eq_true rfl⟩ (r_recv hK hw (v_st (by decide) (by decide)) (E_st (by decide)) rfl) rfl hl.1 rfl (Nat.le_of_ble_eq_true rfl) ⟨Nat.le_refl _, Nat.le_refl _⟩ dX5_best_16 (fun H locs hw hS => ?_)
      refine lv_if_ne (tgt := 25) hx hb dX5_best_19 (by decide) (fun q6 => ?_) (fun q6 => ?_)
      · replace h := t_neg h q6
        refine lv_bipush (v := -5) hx hb dX5_best_25 (by decide) ?_
        refine lv_istore_n (lv' := [(2, .int (-5 : Int32)), (0, .ref (ad 8 0)), (1, .int p0)]) hx hb dX5_best_27 rfl hl (by decide) rfl (fun ls hl => ?_)
        refine lv_sipush (v := nI 129) hx hb dX5_best_28 (by decide) ?_
        refine lv_istore_n (lv' := [(3, .int (nI 129)), (2, .int (-5 : Int32)), (0, .ref (ad 8 0)), (1, .int p0)]) hx hb dX5_best_31 rfl hl (by decide) rfl (fun ls hl => ?_)
        refine lv_iconst (v := nI 0) hx hb dX5_best_32 (by decide) ?_
        refine lv_istore (lv' := [(4, .int (nI 0)), (3, .int (nI 129)), (2, .int (-5 : Int32)), (0, .ref (ad 8 0)), (1, .int p0)]) hx hb dX5_best_33 hl (by decide) rfl (fun ls hl => ?_)
        exact L35 FU M (-5 : Int32) (nI 129) (nI 0) h H locs hw hS ls (lv_sub hl [3, 4, 2, 1, 0] rfl)
      · replace h := t_pos h q6
        refine lv_bipush (v := -4) hx hb dX5_best_22 (by decide) ?_
        have e1 := (t_ret h).1
        have e2 := (t_ret h).2
        exact e_i hx hb hr hlk hw hS e1 e2 dX5_best_24
    · replace h := t_pos h q3
      refine lv_bipush (v := -2) hx hb dX5_best_9 (by decide) ?_
      have e1 := (t_ret h).1
      have e2 := (t_ret h).2
      exact e_i hx hb hr hlk hw hS e1 e2 dX5_best_11
  exact main _ _ hw hS ls hl

theorem cf_X5_count : cfV RX5 yX5_count cX5_count 2 (some .int) 1 := ⟨⟨k_389, k_390, k_1, k_391⟩, by decide +kernel⟩
def f_X5_count (M : MM) (p0 : Int32) : Option (Int32) :=
  (if p0 = (nI 0) then some (M 0 0 2) else (if p0 = (nI 1) then some (M 0 0 3) else (if p0 = (nI 2) then b1 (f_X4_openQuestions (M 0)) fun r15 => some r15 else (if p0 = (nI 3) then some (M 0 0 4) else (if p0 = (nI 4) then b1 (f_X4_rows (M 0) (nI 15)) fun r13 => some r13 else (if p0 = (nI 5) then b1 (f_X4_readRows (M 0) (nI 15)) fun r11 => some r11 else (if p0 = (nI 6) then some (M 0 0 5) else (if p0 = (nI 7) then some (M 8 1 2) else (if p0 = (nI 8) then some (M 7 0 2) else (some (-2 : Int32)))))))))))
set_option maxHeartbeats 4000000 in
set_option maxRecDepth 100000 in
theorem c_X5_count {l : Launch} {D : va_G} {cy : Nat → ClassId} {ad : Nat → Nat → Nat} (hcv : CV ad) {M : MM} {p0 : Int32} {r : Int32} (h : f_X5_count M p0 = some r) : Met l yX5_count (.code yX5_count cX5_count 2 (some .int) :: TB) ({ frames := 2, cells := 0, slots := 0, locals := 44 } : Room) (PW D cy ad M [.ref (ad 8 0), .int p0]) (QI D cy ad r M) 0 0 (AD ad) := by
  refine m_in (by decide +kernel) (Nat.le_of_ble_eq_true rfl) ?_
  intro p e s md args below meth c hC hw hS ls hl
  obtain ⟨hx, hb, hr, hml, hown, hts, hK, hlk⟩ := hC
  have hl : lv_has ls 2 [(0, .ref (ad 8 0)), (1, .int p0)] := hl
  unfold f_X5_count at h
  have main : JL p l e ({ frames := 2, cells := 0, slots := 0, locals := 44 } : Room) s md args below meth c D cy ad (MQ below (QI D cy ad r M) args s 0 0 (AD ad)) (M) 2 [(0, .ref (ad 8 0)), (1, .int p0)] 0 [] := by
    intro H locs hw hS ls hl
    refine lv_iload_n hx hb dX5_count_0 rfl (lv_at hl 1 rfl) ?_
    by_cases q1 : p0 = (nI 0)
    · replace h := t_pos h q1
      refine lv_tableIn (off := 51) (tgt := 52) hx hb dX5_count_1 (by rw [q1]; decide) (by rw [q1]; decide) (by rw [q1]; rfl) (by decide) ?_
      refine lv_aload_n hx hb dX5_count_52 rfl (lv_at hl 0 rfl) ?_
      refine r_get hx hb hts hown hK hw (v_mn (by decide)) rfl E_mn inX5 rfl 1 (by decide) k_206 rfl rfl dX5_count_53 ?_
      refine r_get hx hb hts hown hK hw (v_st (by decide) (by decide)) rfl (E_st (by decide)) inX4 rfl 2 (by decide) k_165 rfl rfl dX5_count_56 ?_
      have e1 := Option.some.inj h
      exact e_i hx hb hr hlk hw hS e1 rfl dX5_count_59
    · replace h := t_neg h q1
      by_cases q2 : p0 = (nI 1)
      · replace h := t_pos h q2
        refine lv_tableIn (off := 59) (tgt := 60) hx hb dX5_count_1 (by rw [q2]; decide) (by rw [q2]; decide) (by rw [q2]; rfl) (by decide) ?_
        refine lv_aload_n hx hb dX5_count_60 rfl (lv_at hl 0 rfl) ?_
        refine r_get hx hb hts hown hK hw (v_mn (by decide)) rfl E_mn inX5 rfl 1 (by decide) k_206 rfl rfl dX5_count_61 ?_
        refine r_get hx hb hts hown hK hw (v_st (by decide) (by decide)) rfl (E_st (by decide)) inX4 rfl 3 (by decide) k_167 rfl rfl dX5_count_64 ?_
        have e1 := Option.some.inj h
        exact e_i hx hb hr hlk hw hS e1 rfl dX5_count_67
      · replace h := t_neg h q2
        by_cases q3 : p0 = (nI 2)
        · replace h := t_pos h q3
          refine lv_tableIn (off := 67) (tgt := 68) hx hb dX5_count_1 (by rw [q3]; decide) (by rw [q3]; decide) (by rw [q3]; rfl) (by decide) ?_
          refine lv_aload_n hx hb dX5_count_68 rfl (lv_at hl 0 rfl) ?_
          refine r_get hx hb hts hown hK hw (v_mn (by decide)) rfl E_mn inX5 rfl 1 (by decide) k_206 rfl rfl dX5_count_69 ?_
          obtain ⟨r15, y14, h⟩ := t_b1 h
          refine c_vi hx hb hml hown hts hK hw hS (fun _ h => h) (As := []) (rest := []) (c_X4_openQuestions hcv (g := 0) (hg := (by decide)) (M0 := M) (m := M 0) (hm := rfl) y14) cf_X4_openQuestions k_337 rfl rfl ⟨Nat.le_of_ble_eq_true rfl, Nat.le_of_ble_eq_true rfl⟩ (r_recv hK hw (v_st (by decide) (by decide)) (E_st (by decide)) rfl) rfl hl.1 rfl (Nat.le_of_ble_eq_true rfl) ⟨Nat.le_refl _, Nat.le_refl _⟩ dX5_count_72 (fun H locs hw hS => ?_)
          have e1 := Option.some.inj h
          exact e_i hx hb hr hlk hw hS e1 rfl dX5_count_75
        · replace h := t_neg h q3
          by_cases q4 : p0 = (nI 3)
          · replace h := t_pos h q4
            refine lv_tableIn (off := 75) (tgt := 76) hx hb dX5_count_1 (by rw [q4]; decide) (by rw [q4]; decide) (by rw [q4]; rfl) (by decide) ?_
            refine lv_aload_n hx hb dX5_count_76 rfl (lv_at hl 0 rfl) ?_
            refine r_get hx hb hts hown hK hw (v_mn (by decide)) rfl E_mn inX5 rfl 1 (by decide) k_206 rfl rfl dX5_count_77 ?_
            refine r_get hx hb hts hown hK hw (v_st (by decide) (by decide)) rfl (E_st (by decide)) inX4 rfl 4 (by decide) k_169 rfl rfl dX5_count_80 ?_
            have e1 := Option.some.inj h
            exact e_i hx hb hr hlk hw hS e1 rfl dX5_count_83
          · replace h := t_neg h q4
            by_cases q5 : p0 = (nI 4)
            · replace h := t_pos h q5
              refine lv_tableIn (off := 83) (tgt := 84) hx hb dX5_count_1 (by rw [q5]; decide) (by rw [q5]; decide) (by rw [q5]; rfl) (by decide) ?_
              refine lv_aload_n hx hb dX5_count_84 rfl (lv_at hl 0 rfl) ?_
              refine r_get hx hb hts hown hK hw (v_mn (by decide)) rfl E_mn inX5 rfl 1 (by decide) k_206 rfl rfl dX5_count_85 ?_
              refine lv_bipush (v := nI 15) hx hb dX5_count_88 (by decide) ?_
              obtain ⟨r13, y12, h⟩ := t_b1 h
              refine c_vi hx hb hml hown hts hK hw hS (fun _ h => h) (As := [.int (nI 15)]) (rest := []) (c_X4_rows hcv (g := 0) (hg := (by decide)) (M0 := M) (m := M 0) (hm := rfl) y12) cf_X4_rows k_370 rfl rfl ⟨Nat.le_of_ble_eq_true rfl, Nat.le_of_ble_eq_true rfl⟩ (r_recv hK hw (v_st (by decide) (by decide)) (E_st (by decide)) rfl) rfl hl.1 rfl (Nat.le_of_ble_eq_true rfl) ⟨Nat.le_refl _, Nat.le_refl _⟩ dX5_count_90 (fun H locs hw hS => ?_)
              have e1 := Option.some.inj h
              exact e_i hx hb hr hlk hw hS e1 rfl dX5_count_93
            · replace h := t_neg h q5
              by_cases q6 : p0 = (nI 5)
              · replace h := t_pos h q6
                refine lv_tableIn (off := 93) (tgt := 94) hx hb dX5_count_1 (by rw [q6]; decide) (by rw [q6]; decide) (by rw [q6]; rfl) (by decide) ?_
                refine lv_aload_n hx hb dX5_count_94 rfl (lv_at hl 0 rfl) ?_
                refine r_get hx hb hts hown hK hw (v_mn (by decide)) rfl E_mn inX5 rfl 1 (by decide) k_206 rfl rfl dX5_count_95 ?_
                refine lv_bipush (v := nI 15) hx hb dX5_count_98 (by decide) ?_
                obtain ⟨r11, y10, h⟩ := t_b1 h
                refine c_vi hx hb hml hown hts hK hw hS (fun _ h => h) (As := [.int (nI 15)]) (rest := []) (c_X4_readRows hcv (g := 0) (hg := (by decide)) (M0 := M) (m := M 0) (hm := rfl) y10) cf_X4_readRows k_371 rfl rfl ⟨Nat.le_of_ble_eq_true rfl, Nat.le_of_ble_eq_true rfl⟩ (r_recv hK hw (v_st (by decide) (by decide)) (E_st (by decide)) rfl) rfl hl.1 rfl (Nat.le_of_ble_eq_true rfl) ⟨Nat.le_refl _, Nat.le_refl _⟩ dX5_count_100 (fun H locs hw hS => ?_)
                have e1 := Option.some.inj h
                exact e_i hx hb hr hlk hw hS e1 rfl dX5_count_103
              · replace h := t_neg h q6
                by_cases q7 : p0 = (nI 6)
                · replace h := t_pos h q7
                  refine lv_tableIn (off := 103) (tgt := 104) hx hb dX5_count_1 (by rw [q7]; decide) (by rw [q7]; decide) (by rw [q7]; rfl) (by decide) ?_
                  refine lv_aload_n hx hb dX5_count_104 rfl (lv_at hl 0 rfl) ?_
                  refine r_get hx hb hts hown hK hw (v_mn (by decide)) rfl E_mn inX5 rfl 1 (by decide) k_206 rfl rfl dX5_count_105 ?_
                  refine r_get hx hb hts hown hK hw (v_st (by decide) (by decide)) rfl (E_st (by decide)) inX4 rfl 5 (by decide) k_171 rfl rfl dX5_count_108 ?_
                  have e1 := Option.some.inj h
                  exact e_i hx hb hr hlk hw hS e1 rfl dX5_count_111
                · replace h := t_neg h q7
                  by_cases q8 : p0 = (nI 7)
                  · replace h := t_pos h q8
                    refine lv_tableIn (off := 111) (tgt := 112) hx hb dX5_count_1 (by rw [q8]; decide) (by rw [q8]; decide) (by rw [q8]; rfl) (by decide) ?_
                    refine lv_aload_n hx hb dX5_count_112 rfl (lv_at hl 0 rfl) ?_
                    refine r_get hx hb hts hown hK hw (v_mn (by decide)) rfl E_mn inX5 rfl 4 (by decide) k_209 rfl rfl dX5_count_113 ?_
                    refine r_get hx hb hts hown hK hw (v_mn (by decide)) rfl E_hi inX2 rfl 2 (by decide) k_197 rfl rfl dX5_count_116 ?_
                    have e1 := Option.some.inj h
                    exact e_i hx hb hr hlk hw hS e1 rfl dX5_count_119
                  · replace h := t_neg h q8
                    by_cases q9 : p0 = (nI 8)
                    · replace h := t_pos h q9
                      refine lv_tableIn (off := 119) (tgt := 120) hx hb dX5_count_1 (by rw [q9]; decide) (by rw [q9]; decide) (by rw [q9]; rfl) (by decide) ?_
                      refine lv_aload_n hx hb dX5_count_120 rfl (lv_at hl 0 rfl) ?_
                      refine r_get hx hb hts hown hK hw (v_mn (by decide)) rfl E_mn inX5 rfl 0 (by decide) k_205 rfl rfl dX5_count_121 ?_
                      refine r_get hx hb hts hown hK hw (v_tx (by decide)) rfl E_tx inX1 rfl 2 (by decide) k_27 rfl rfl dX5_count_124 ?_
                      have e1 := Option.some.inj h
                      exact e_i hx hb hr hlk hw hS e1 rfl dX5_count_127
                    · replace h := t_neg h q9
                      refine lv_tableOut (tgt := 128) hx hb dX5_count_1 (tab_out (lo := 0) (n := 9) (by decide) (lt_s (lt_s (lt_s (lt_s (lt_s (lt_s (lt_s (lt_s (lt_s lt_0 q1) q2) q3) q4) q5) q6) q7) q8) q9)) (by decide) ?_
                      refine lv_bipush (v := -2) hx hb dX5_count_128 (by decide) ?_
                      have e1 := Option.some.inj h
                      exact e_i hx hb hr hlk hw hS e1 rfl dX5_count_130
  exact main _ _ hw hS ls hl
end
