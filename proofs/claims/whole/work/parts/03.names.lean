/-! ===== BEGIN printed: names, fields, word lists, decode rows ===== -/
def RX0 : String := "IdleDispatcher$Dispatcher"
def TX0 : u_T := fun k => match k with
  | 0 => ("IdleDispatcher$Dispatcher", "policy", "I", false)
  | 1 => ("IdleDispatcher$Dispatcher", "pointer", "I", false)
  | 2 => ("IdleDispatcher$Dispatcher", "idleCount", "I", false)
  | 3 => ("IdleDispatcher$Dispatcher", "idle", "[I", true)
  | _ => ("IdleDispatcher$Dispatcher", "known", "[I", true)
def tyX0 : Nat → FieldType := fun k => match k with
  | 0 => .int
  | 1 => .int
  | 2 => .int
  | 3 => .array .int
  | _ => .array .int
abbrev wsX00 : List Cond := u_ws RX0 TX0 5
theorem nmX0 : ∀ a, a < 5 → ∀ b, b < 5 → a ≠ b → (TX0 a).2.1 ≠ (TX0 b).2.1 := by decide +kernel
theorem tyX0_ok : ∀ k, k < 5 → parseFieldDescriptor (TX0 k).2.2.1 = some (tyX0 k) := by decide +kernel
abbrev cX0_init : ByteArray := prog_2_method_1_code
def yX0_init : MethodName := ⟨RX0, "<init>", "()V"⟩
abbrev cX0_copyFrom : ByteArray := prog_2_method_2_code
def yX0_copyFrom : MethodName := ⟨RX0, "copyFrom", "(LIdleDispatcher$Dispatcher;)V"⟩
abbrev cX0_appendIdle : ByteArray := prog_2_method_3_code
def yX0_appendIdle : MethodName := ⟨RX0, "appendIdle", "(I)V"⟩
abbrev cX0_removeIdle : ByteArray := prog_2_method_4_code
def yX0_removeIdle : MethodName := ⟨RX0, "removeIdle", "(I)V"⟩
abbrev cX0_mixAll : ByteArray := prog_2_method_5_code
def yX0_mixAll : MethodName := ⟨RX0, "mixAll", "(JI)J"⟩
def RX1 : String := "IdleDispatcher$Jobs"
def TX1 : u_T := fun k => match k with
  | 0 => ("IdleDispatcher$Jobs", "count", "I", false)
  | 1 => ("IdleDispatcher$Jobs", "finished", "I", false)
  | 2 => ("IdleDispatcher$Jobs", "begun", "I", false)
  | 3 => ("IdleDispatcher$Jobs", "waitSum", "I", false)
  | 4 => ("IdleDispatcher$Jobs", "missed", "I", false)
  | 5 => ("IdleDispatcher$Jobs", "server", "[I", true)
  | 6 => ("IdleDispatcher$Jobs", "left", "[I", true)
  | 7 => ("IdleDispatcher$Jobs", "submittedAt", "[I", true)
  | 8 => ("IdleDispatcher$Jobs", "wait", "[I", true)
  | _ => ("IdleDispatcher$Jobs", "next", "[I", true)
def tyX1 : Nat → FieldType := fun k => match k with
  | 0 => .int
  | 1 => .int
  | 2 => .int
  | 3 => .int
  | 4 => .int
  | 5 => .array .int
  | 6 => .array .int
  | 7 => .array .int
  | 8 => .array .int
  | _ => .array .int
abbrev wsX10 : List Cond := u_ws RX1 TX1 10
theorem nmX1 : ∀ a, a < 10 → ∀ b, b < 10 → a ≠ b → (TX1 a).2.1 ≠ (TX1 b).2.1 := by decide +kernel
theorem tyX1_ok : ∀ k, k < 10 → parseFieldDescriptor (TX1 k).2.2.1 = some (tyX1 k) := by decide +kernel
abbrev cX1_init : ByteArray := prog_3_method_1_code
def yX1_init : MethodName := ⟨RX1, "<init>", "()V"⟩
abbrev cX1_copyFrom : ByteArray := prog_3_method_2_code
def yX1_copyFrom : MethodName := ⟨RX1, "copyFrom", "(LIdleDispatcher$Jobs;)V"⟩
abbrev cX1_append : ByteArray := prog_3_method_3_code
def yX1_append : MethodName := ⟨RX1, "append", "(III)I"⟩
abbrev cX1_begin : ByteArray := prog_3_method_4_code
def yX1_begin : MethodName := ⟨RX1, "begin", "(II)V"⟩
def RX2 : String := "IdleDispatcher$Server"
def TX2 : u_T := fun k => match k with
  | 0 => ("IdleDispatcher$Server", "up", "Z", false)
  | 1 => ("IdleDispatcher$Server", "length", "I", false)
  | 2 => ("IdleDispatcher$Server", "work", "I", false)
  | 3 => ("IdleDispatcher$Server", "registeredAt", "I", false)
  | 4 => ("IdleDispatcher$Server", "firstJob", "I", false)
  | _ => ("IdleDispatcher$Server", "lastJob", "I", false)
def tyX2 : Nat → FieldType := fun k => match k with
  | 0 => .boolean
  | 1 => .int
  | 2 => .int
  | 3 => .int
  | 4 => .int
  | _ => .int
abbrev wsX20 : List Cond := u_ws RX2 TX2 6
theorem nmX2 : ∀ a, a < 6 → ∀ b, b < 6 → a ≠ b → (TX2 a).2.1 ≠ (TX2 b).2.1 := by decide +kernel
theorem tyX2_ok : ∀ k, k < 6 → parseFieldDescriptor (TX2 k).2.2.1 = some (tyX2 k) := by decide +kernel
abbrev cX2_init : ByteArray := prog_4_method_1_code
def yX2_init : MethodName := ⟨RX2, "<init>", "()V"⟩
abbrev cX2_copyFrom : ByteArray := prog_4_method_2_code
def yX2_copyFrom : MethodName := ⟨RX2, "copyFrom", "(LIdleDispatcher$Server;)V"⟩
abbrev cX2_isIdle : ByteArray := prog_4_method_3_code
def yX2_isIdle : MethodName := ⟨RX2, "isIdle", "()Z"⟩
abbrev cX2_mixAll : ByteArray := prog_4_method_4_code
def yX2_mixAll : MethodName := ⟨RX2, "mixAll", "(J)J"⟩
def RX3 : String := "IdleDispatcher$State"
def TX3 : u_T := fun k => match k with
  | 0 => ("IdleDispatcher$State", "now", "I", false)
  | 1 => ("IdleDispatcher$State", "random", "J", false)
  | 2 => ("IdleDispatcher$State", "joinMode", "I", false)
  | 3 => ("IdleDispatcher$State", "reportPeriod", "I", false)
  | 4 => ("IdleDispatcher$State", "serverCount", "I", false)
  | 5 => ("IdleDispatcher$State", "dispatcherCount", "I", false)
  | 6 => ("IdleDispatcher$State", "servers", "[LIdleDispatcher$Server;", true)
  | 7 => ("IdleDispatcher$State", "dispatchers", "[LIdleDispatcher$Dispatcher;", true)
  | 8 => ("IdleDispatcher$State", "jobs", "LIdleDispatcher$Jobs;", true)
  | 9 => ("IdleDispatcher$State", "candidateCount", "I", false)
  | _ => ("IdleDispatcher$State", "candidates", "[I", true)
def tyX3 : Nat → FieldType := fun k => match k with
  | 0 => .int
  | 1 => .long
  | 2 => .int
  | 3 => .int
  | 4 => .int
  | 5 => .int
  | 6 => .array (.object "IdleDispatcher$Server")
  | 7 => .array (.object "IdleDispatcher$Dispatcher")
  | 8 => .object "IdleDispatcher$Jobs"
  | 9 => .int
  | _ => .array .int
abbrev wsX30 : List Cond := u_ws RX3 TX3 11
theorem nmX3 : ∀ a, a < 11 → ∀ b, b < 11 → a ≠ b → (TX3 a).2.1 ≠ (TX3 b).2.1 := by decide +kernel
theorem tyX3_ok : ∀ k, k < 11 → parseFieldDescriptor (TX3 k).2.2.1 = some (tyX3 k) := by decide +kernel
abbrev cX3_init : ByteArray := prog_5_method_1_code
def yX3_init : MethodName := ⟨RX3, "<init>", "()V"⟩
abbrev cX3_copyFrom : ByteArray := prog_5_method_2_code
def yX3_copyFrom : MethodName := ⟨RX3, "copyFrom", "(LIdleDispatcher$State;)V"⟩
abbrev cX3_openServer : ByteArray := prog_5_method_3_code
def yX3_openServer : MethodName := ⟨RX3, "openServer", "()I"⟩
abbrev cX3_openDispatcher : ByteArray := prog_5_method_4_code
def yX3_openDispatcher : MethodName := ⟨RX3, "openDispatcher", "(I)I"⟩
abbrev cX3_switchServer : ByteArray := prog_5_method_5_code
def yX3_switchServer : MethodName := ⟨RX3, "switchServer", "(IZ)Z"⟩
abbrev cX3_draw : ByteArray := prog_5_method_6_code
def yX3_draw : MethodName := ⟨RX3, "draw", "(I)I"⟩
abbrev cX3_register : ByteArray := prog_5_method_7_code
def yX3_register : MethodName := ⟨RX3, "register", "(I)V"⟩
abbrev cX3_chooseList : ByteArray := prog_5_method_8_code
def yX3_chooseList : MethodName := ⟨RX3, "chooseList", "(I)I"⟩
abbrev cX3_leaveIdleList : ByteArray := prog_5_method_9_code
def yX3_leaveIdleList : MethodName := ⟨RX3, "leaveIdleList", "(I)V"⟩
abbrev cX3_collectCandidates : ByteArray := prog_5_method_10_code
def yX3_collectCandidates : MethodName := ⟨RX3, "collectCandidates", "()V"⟩
abbrev cX3_certainServer : ByteArray := prog_5_method_11_code
def yX3_certainServer : MethodName := ⟨RX3, "certainServer", "(LIdleDispatcher$Dispatcher;)I"⟩
abbrev cX3_nextInTurn : ByteArray := prog_5_method_12_code
def yX3_nextInTurn : MethodName := ⟨RX3, "nextInTurn", "(I)I"⟩
abbrev cX3_leastKnown : ByteArray := prog_5_method_13_code
def yX3_leastKnown : MethodName := ⟨RX3, "leastKnown", "([I)I"⟩
abbrev cX3_drawServer : ByteArray := prog_5_method_14_code
def yX3_drawServer : MethodName := ⟨RX3, "drawServer", "(I)I"⟩
abbrev cX3_takeServer : ByteArray := prog_5_method_15_code
def yX3_takeServer : MethodName := ⟨RX3, "takeServer", "(LIdleDispatcher$Dispatcher;)I"⟩
abbrev cX3_sumOverOutcomes : ByteArray := prog_5_method_16_code
def yX3_sumOverOutcomes : MethodName := ⟨RX3, "sumOverOutcomes", "(I)I"⟩
abbrev cX3_countOutcomes : ByteArray := prog_5_method_17_code
def yX3_countOutcomes : MethodName := ⟨RX3, "countOutcomes", "(I)I"⟩
abbrev cX3_sumOverCandidates : ByteArray := prog_5_method_18_code
def yX3_sumOverCandidates : MethodName := ⟨RX3, "sumOverCandidates", "()I"⟩
abbrev cX3_sumOverPairs : ByteArray := prog_5_method_19_code
def yX3_sumOverPairs : MethodName := ⟨RX3, "sumOverPairs", "()I"⟩
abbrev cX3_dispatch : ByteArray := prog_5_method_20_code
def yX3_dispatch : MethodName := ⟨RX3, "dispatch", "(II)I"⟩
abbrev cX3_anyIdle : ByteArray := prog_5_method_21_code
def yX3_anyIdle : MethodName := ⟨RX3, "anyIdle", "()Z"⟩
abbrev cX3_enqueue : ByteArray := prog_5_method_22_code
def yX3_enqueue : MethodName := ⟨RX3, "enqueue", "(II)V"⟩
abbrev cX3_passTick : ByteArray := prog_5_method_23_code
def yX3_passTick : MethodName := ⟨RX3, "passTick", "()V"⟩
abbrev cX3_serve : ByteArray := prog_5_method_24_code
def yX3_serve : MethodName := ⟨RX3, "serve", "(I)V"⟩
abbrev cX3_finish : ByteArray := prog_5_method_25_code
def yX3_finish : MethodName := ⟨RX3, "finish", "(LIdleDispatcher$Server;I)V"⟩
abbrev cX3_report : ByteArray := prog_5_method_26_code
def yX3_report : MethodName := ⟨RX3, "report", "()V"⟩
abbrev cX3_mixAll : ByteArray := prog_5_method_27_code
def yX3_mixAll : MethodName := ⟨RX3, "mixAll", "(J)J"⟩
def RX4 : String := "IdleDispatcher"
def TX4 : u_T := fun k => match k with
  | 0 => ("IdleDispatcher", "state", "LIdleDispatcher$State;", false)
  | 1 => ("IdleDispatcher", "saved", "[LIdleDispatcher$State;", true)
  | _ => ("IdleDispatcher", "savedCount", "I", false)
def tyX4 : Nat → FieldType := fun k => match k with
  | 0 => .object "IdleDispatcher$State"
  | 1 => .array (.object "IdleDispatcher$State")
  | _ => .int
abbrev wsX40 : List Cond := u_ws RX4 TX4 3
theorem nmX4 : ∀ a, a < 3 → ∀ b, b < 3 → a ≠ b → (TX4 a).2.1 ≠ (TX4 b).2.1 := by decide +kernel
theorem tyX4_ok : ∀ k, k < 3 → parseFieldDescriptor (TX4 k).2.2.1 = some (tyX4 k) := by decide +kernel
abbrev cX4_init : ByteArray := prog_1_method_1_code
def yX4_init : MethodName := ⟨RX4, "<init>", "()V"⟩
abbrev cX4_addServer : ByteArray := prog_1_method_2_code
def yX4_addServer : MethodName := ⟨RX4, "addServer", "()I"⟩
abbrev cX4_addDispatcher : ByteArray := prog_1_method_3_code
def yX4_addDispatcher : MethodName := ⟨RX4, "addDispatcher", "(I)I"⟩
abbrev cX4_setPolicy : ByteArray := prog_1_method_4_code
def yX4_setPolicy : MethodName := ⟨RX4, "setPolicy", "(II)I"⟩
abbrev cX4_setJoinMode : ByteArray := prog_1_method_5_code
def yX4_setJoinMode : MethodName := ⟨RX4, "setJoinMode", "(I)I"⟩
abbrev cX4_setReportPeriod : ByteArray := prog_1_method_6_code
def yX4_setReportPeriod : MethodName := ⟨RX4, "setReportPeriod", "(I)I"⟩
abbrev cX4_setRandom : ByteArray := prog_1_method_7_code
def yX4_setRandom : MethodName := ⟨RX4, "setRandom", "(I)I"⟩
abbrev cX4_setUp : ByteArray := prog_1_method_8_code
def yX4_setUp : MethodName := ⟨RX4, "setUp", "(IZ)Z"⟩
abbrev cX4_submit : ByteArray := prog_1_method_9_code
def yX4_submit : MethodName := ⟨RX4, "submit", "(II)I"⟩
abbrev cX4_tick : ByteArray := prog_1_method_10_code
def yX4_tick : MethodName := ⟨RX4, "tick", "(I)I"⟩
abbrev cX4_length : ByteArray := prog_1_method_11_code
def yX4_length : MethodName := ⟨RX4, "length", "(I)I"⟩
abbrev cX4_work : ByteArray := prog_1_method_12_code
def yX4_work : MethodName := ⟨RX4, "work", "(I)I"⟩
abbrev cX4_registeredAt : ByteArray := prog_1_method_13_code
def yX4_registeredAt : MethodName := ⟨RX4, "registeredAt", "(I)I"⟩
abbrev cX4_idleCount : ByteArray := prog_1_method_14_code
def yX4_idleCount : MethodName := ⟨RX4, "idleCount", "(I)I"⟩
abbrev cX4_idleAt : ByteArray := prog_1_method_15_code
def yX4_idleAt : MethodName := ⟨RX4, "idleAt", "(II)I"⟩
abbrev cX4_knownLength : ByteArray := prog_1_method_16_code
def yX4_knownLength : MethodName := ⟨RX4, "knownLength", "(II)I"⟩
abbrev cX4_expectedLength : ByteArray := prog_1_method_17_code
def yX4_expectedLength : MethodName := ⟨RX4, "expectedLength", "(II)I"⟩
abbrev cX4_submitted : ByteArray := prog_1_method_18_code
def yX4_submitted : MethodName := ⟨RX4, "submitted", "()I"⟩
abbrev cX4_finished : ByteArray := prog_1_method_19_code
def yX4_finished : MethodName := ⟨RX4, "finished", "()I"⟩
abbrev cX4_serverOf : ByteArray := prog_1_method_20_code
def yX4_serverOf : MethodName := ⟨RX4, "serverOf", "(I)I"⟩
abbrev cX4_waitOf : ByteArray := prog_1_method_21_code
def yX4_waitOf : MethodName := ⟨RX4, "waitOf", "(I)I"⟩
abbrev cX4_meanWait : ByteArray := prog_1_method_22_code
def yX4_meanWait : MethodName := ⟨RX4, "meanWait", "()D"⟩
abbrev cX4_missed : ByteArray := prog_1_method_23_code
def yX4_missed : MethodName := ⟨RX4, "missed", "()I"⟩
abbrev cX4_now : ByteArray := prog_1_method_24_code
def yX4_now : MethodName := ⟨RX4, "now", "()I"⟩
abbrev cX4_undo : ByteArray := prog_1_method_25_code
def yX4_undo : MethodName := ⟨RX4, "undo", "()I"⟩
abbrev cX4_digest : ByteArray := prog_1_method_26_code
def yX4_digest : MethodName := ⟨RX4, "digest", "()J"⟩
abbrev cX4_save : ByteArray := prog_1_method_27_code
def yX4_save : MethodName := ⟨RX4, "save", "()V"⟩
abbrev cX4_dropOldest : ByteArray := prog_1_method_28_code
def yX4_dropOldest : MethodName := ⟨RX4, "dropOldest", "()V"⟩
abbrev cX4_requireServer : ByteArray := prog_1_method_29_code
def yX4_requireServer : MethodName := ⟨RX4, "requireServer", "(I)V"⟩
abbrev cX4_requireDispatcher : ByteArray := prog_1_method_30_code
def yX4_requireDispatcher : MethodName := ⟨RX4, "requireDispatcher", "(I)V"⟩
abbrev cX4_requireServerUp : ByteArray := prog_1_method_31_code
def yX4_requireServerUp : MethodName := ⟨RX4, "requireServerUp", "()V"⟩
abbrev cX4_requireRange : ByteArray := prog_1_method_32_code
def yX4_requireRange : MethodName := ⟨RX4, "requireRange", "(III)V"⟩
abbrev cX4_requireIndex : ByteArray := prog_1_method_33_code
def yX4_requireIndex : MethodName := ⟨RX4, "requireIndex", "(II)V"⟩
abbrev cX4_commonDivisor : ByteArray := prog_1_method_34_code
def yX4_commonDivisor : MethodName := ⟨RX4, "commonDivisor", "(II)I"⟩
abbrev cX4_mix : ByteArray := prog_1_method_35_code
def yX4_mix : MethodName := ⟨RX4, "mix", "(JJ)J"⟩
def RX5 : String := "IdleDispatcherModel"
def TX5 : u_T := fun k => match k with
  | 0 => ("IdleDispatcherModel", "now", "[I", true)
  | 1 => ("IdleDispatcherModel", "history", "[I", true)
  | 2 => ("IdleDispatcherModel", "saved", "I", false)
  | 3 => ("IdleDispatcherModel", "thrown", "I", false)
  | 4 => ("IdleDispatcherModel", "candidates", "[I", true)
  | _ => ("IdleDispatcherModel", "hash", "J", false)
def tyX5 : Nat → FieldType := fun k => match k with
  | 0 => .array .int
  | 1 => .array .int
  | 2 => .int
  | 3 => .int
  | 4 => .array .int
  | _ => .long
abbrev wsX50 : List Cond := u_ws RX5 TX5 6
theorem nmX5 : ∀ a, a < 6 → ∀ b, b < 6 → a ≠ b → (TX5 a).2.1 ≠ (TX5 b).2.1 := by decide +kernel
theorem tyX5_ok : ∀ k, k < 6 → parseFieldDescriptor (TX5 k).2.2.1 = some (tyX5 k) := by decide +kernel
abbrev cX5_init : ByteArray := prog_7_method_1_code
def yX5_init : MethodName := ⟨RX5, "<init>", "()V"⟩
abbrev cX5_thrown : ByteArray := prog_7_method_2_code
def yX5_thrown : MethodName := ⟨RX5, "thrown", "()I"⟩
abbrev cX5_refuse : ByteArray := prog_7_method_3_code
def yX5_refuse : MethodName := ⟨RX5, "refuse", "(I)I"⟩
abbrev cX5_in : ByteArray := prog_7_method_4_code
def yX5_in : MethodName := ⟨RX5, "in", "(III)Z"⟩
abbrev cX5_isServer : ByteArray := prog_7_method_5_code
def yX5_isServer : MethodName := ⟨RX5, "isServer", "(I)Z"⟩
abbrev cX5_isDispatcher : ByteArray := prog_7_method_6_code
def yX5_isDispatcher : MethodName := ⟨RX5, "isDispatcher", "(I)Z"⟩
abbrev cX5_isJob : ByteArray := prog_7_method_7_code
def yX5_isJob : MethodName := ⟨RX5, "isJob", "(I)Z"⟩
abbrev cX5_save : ByteArray := prog_7_method_8_code
def yX5_save : MethodName := ⟨RX5, "save", "()V"⟩
abbrev cX5_draw : ByteArray := prog_7_method_9_code
def yX5_draw : MethodName := ⟨RX5, "draw", "(I)I"⟩
abbrev cX5_isUp : ByteArray := prog_7_method_10_code
def yX5_isUp : MethodName := ⟨RX5, "isUp", "(I)Z"⟩
abbrev cX5_isQueued : ByteArray := prog_7_method_11_code
def yX5_isQueued : MethodName := ⟨RX5, "isQueued", "(II)Z"⟩
abbrev cX5_lengthOf : ByteArray := prog_7_method_12_code
def yX5_lengthOf : MethodName := ⟨RX5, "lengthOf", "(I)I"⟩
abbrev cX5_workOf : ByteArray := prog_7_method_13_code
def yX5_workOf : MethodName := ⟨RX5, "workOf", "(I)I"⟩
abbrev cX5_firstJob : ByteArray := prog_7_method_14_code
def yX5_firstJob : MethodName := ⟨RX5, "firstJob", "(I)I"⟩
abbrev cX5_listOf : ByteArray := prog_7_method_15_code
def yX5_listOf : MethodName := ⟨RX5, "listOf", "(I)I"⟩
abbrev cX5_register : ByteArray := prog_7_method_16_code
def yX5_register : MethodName := ⟨RX5, "register", "(I)V"⟩
abbrev cX5_leave : ByteArray := prog_7_method_17_code
def yX5_leave : MethodName := ⟨RX5, "leave", "(I)V"⟩
abbrev cX5_addServer : ByteArray := prog_7_method_18_code
def yX5_addServer : MethodName := ⟨RX5, "addServer", "()I"⟩
abbrev cX5_addDispatcher : ByteArray := prog_7_method_19_code
def yX5_addDispatcher : MethodName := ⟨RX5, "addDispatcher", "(I)I"⟩
abbrev cX5_setPolicy : ByteArray := prog_7_method_20_code
def yX5_setPolicy : MethodName := ⟨RX5, "setPolicy", "(II)I"⟩
abbrev cX5_setJoinMode : ByteArray := prog_7_method_21_code
def yX5_setJoinMode : MethodName := ⟨RX5, "setJoinMode", "(I)I"⟩
abbrev cX5_setReportPeriod : ByteArray := prog_7_method_22_code
def yX5_setReportPeriod : MethodName := ⟨RX5, "setReportPeriod", "(I)I"⟩
abbrev cX5_setRandom : ByteArray := prog_7_method_23_code
def yX5_setRandom : MethodName := ⟨RX5, "setRandom", "(I)I"⟩
abbrev cX5_setUp : ByteArray := prog_7_method_24_code
def yX5_setUp : MethodName := ⟨RX5, "setUp", "(IZ)Z"⟩
abbrev cX5_findCandidates : ByteArray := prog_7_method_25_code
def yX5_findCandidates : MethodName := ⟨RX5, "findCandidates", "()I"⟩
abbrev cX5_nextInTurn : ByteArray := prog_7_method_26_code
def yX5_nextInTurn : MethodName := ⟨RX5, "nextInTurn", "(II)I"⟩
abbrev cX5_leastKnown : ByteArray := prog_7_method_27_code
def yX5_leastKnown : MethodName := ⟨RX5, "leastKnown", "(II)I"⟩
abbrev cX5_twoChoices : ByteArray := prog_7_method_28_code
def yX5_twoChoices : MethodName := ⟨RX5, "twoChoices", "(I)I"⟩
abbrev cX5_taken : ByteArray := prog_7_method_29_code
def yX5_taken : MethodName := ⟨RX5, "taken", "(II)I"⟩
abbrev cX5_isSomeIdle : ByteArray := prog_7_method_30_code
def yX5_isSomeIdle : MethodName := ⟨RX5, "isSomeIdle", "(I)Z"⟩
abbrev cX5_submit : ByteArray := prog_7_method_31_code
def yX5_submit : MethodName := ⟨RX5, "submit", "(II)I"⟩
abbrev cX5_serve : ByteArray := prog_7_method_32_code
def yX5_serve : MethodName := ⟨RX5, "serve", "(I)V"⟩
abbrev cX5_report : ByteArray := prog_7_method_33_code
def yX5_report : MethodName := ⟨RX5, "report", "()V"⟩
abbrev cX5_tick : ByteArray := prog_7_method_34_code
def yX5_tick : MethodName := ⟨RX5, "tick", "(I)I"⟩
abbrev cX5_length : ByteArray := prog_7_method_35_code
def yX5_length : MethodName := ⟨RX5, "length", "(I)I"⟩
abbrev cX5_work : ByteArray := prog_7_method_36_code
def yX5_work : MethodName := ⟨RX5, "work", "(I)I"⟩
abbrev cX5_registeredAt : ByteArray := prog_7_method_37_code
def yX5_registeredAt : MethodName := ⟨RX5, "registeredAt", "(I)I"⟩
abbrev cX5_idleCount : ByteArray := prog_7_method_38_code
def yX5_idleCount : MethodName := ⟨RX5, "idleCount", "(I)I"⟩
abbrev cX5_idleAt : ByteArray := prog_7_method_39_code
def yX5_idleAt : MethodName := ⟨RX5, "idleAt", "(II)I"⟩
abbrev cX5_knownLength : ByteArray := prog_7_method_40_code
def yX5_knownLength : MethodName := ⟨RX5, "knownLength", "(II)I"⟩
abbrev cX5_sumOfLengths : ByteArray := prog_7_method_41_code
def yX5_sumOfLengths : MethodName := ⟨RX5, "sumOfLengths", "(I)I"⟩
abbrev cX5_sumOfLesser : ByteArray := prog_7_method_42_code
def yX5_sumOfLesser : MethodName := ⟨RX5, "sumOfLesser", "(I)I"⟩
abbrev cX5_common : ByteArray := prog_7_method_43_code
def yX5_common : MethodName := ⟨RX5, "common", "(II)I"⟩
abbrev cX5_expected : ByteArray := prog_7_method_44_code
def yX5_expected : MethodName := ⟨RX5, "expected", "(III)I"⟩
abbrev cX5_expectedLength : ByteArray := prog_7_method_45_code
def yX5_expectedLength : MethodName := ⟨RX5, "expectedLength", "(II)I"⟩
abbrev cX5_submitted : ByteArray := prog_7_method_46_code
def yX5_submitted : MethodName := ⟨RX5, "submitted", "()I"⟩
abbrev cX5_finished : ByteArray := prog_7_method_47_code
def yX5_finished : MethodName := ⟨RX5, "finished", "()I"⟩
abbrev cX5_serverOf : ByteArray := prog_7_method_48_code
def yX5_serverOf : MethodName := ⟨RX5, "serverOf", "(I)I"⟩
abbrev cX5_waitOf : ByteArray := prog_7_method_49_code
def yX5_waitOf : MethodName := ⟨RX5, "waitOf", "(I)I"⟩
abbrev cX5_waits : ByteArray := prog_7_method_50_code
def yX5_waits : MethodName := ⟨RX5, "waits", "()I"⟩
abbrev cX5_begun : ByteArray := prog_7_method_51_code
def yX5_begun : MethodName := ⟨RX5, "begun", "()I"⟩
abbrev cX5_meanWait : ByteArray := prog_7_method_52_code
def yX5_meanWait : MethodName := ⟨RX5, "meanWait", "()D"⟩
abbrev cX5_missed : ByteArray := prog_7_method_53_code
def yX5_missed : MethodName := ⟨RX5, "missed", "()I"⟩
abbrev cX5_now : ByteArray := prog_7_method_54_code
def yX5_now : MethodName := ⟨RX5, "now", "()I"⟩
abbrev cX5_undo : ByteArray := prog_7_method_55_code
def yX5_undo : MethodName := ⟨RX5, "undo", "()I"⟩
abbrev cX5_mix : ByteArray := prog_7_method_56_code
def yX5_mix : MethodName := ⟨RX5, "mix", "(I)V"⟩
abbrev cX5_mixServers : ByteArray := prog_7_method_57_code
def yX5_mixServers : MethodName := ⟨RX5, "mixServers", "()V"⟩
abbrev cX5_mixDispatchers : ByteArray := prog_7_method_58_code
def yX5_mixDispatchers : MethodName := ⟨RX5, "mixDispatchers", "()V"⟩
abbrev cX5_digest : ByteArray := prog_7_method_59_code
def yX5_digest : MethodName := ⟨RX5, "digest", "()J"⟩
def RJ9 : String := "java/lang/Math"
def TJ9 : u_T := fun k => match k with
  | _ => ("", "", "", false)
def tyJ9 : Nat → FieldType := fun k => match k with
  | _ => .int
abbrev wsJ90 : List Cond := u_ws RJ9 TJ9 0
theorem nmJ9 : ∀ a, a < 0 → ∀ b, b < 0 → a ≠ b → (TJ9 a).2.1 ≠ (TJ9 b).2.1 := by decide +kernel
theorem tyJ9_ok : ∀ k, k < 0 → parseFieldDescriptor (TJ9 k).2.2.1 = some (tyJ9 k) := by decide +kernel
abbrev cJ9_min_7cf53 : ByteArray := prog_12_method_69_code
def yJ9_min_7cf53 : MethodName := ⟨RJ9, "min", "(II)I"⟩
def RJ0 : String := "java/lang/String"
def TJ0 : u_T := fun k => match k with
  | _ => ("", "", "", false)
def tyJ0 : Nat → FieldType := fun k => match k with
  | _ => .int
abbrev wsJ00 : List Cond := u_ws RJ0 TJ0 0
theorem nmJ0 : ∀ a, a < 0 → ∀ b, b < 0 → a ≠ b → (TJ0 a).2.1 ≠ (TJ0 b).2.1 := by decide +kernel
theorem tyJ0_ok : ∀ k, k < 0 → parseFieldDescriptor (TJ0 k).2.2.1 = some (tyJ0 k) := by decide +kernel
def RJ10 : String := "java/lang/System"
def TJ10 : u_T := fun k => match k with
  | _ => ("", "", "", false)
def tyJ10 : Nat → FieldType := fun k => match k with
  | _ => .int
abbrev wsJ100 : List Cond := u_ws RJ10 TJ10 0
theorem nmJ10 : ∀ a, a < 0 → ∀ b, b < 0 → a ≠ b → (TJ10 a).2.1 ≠ (TJ10 b).2.1 := by decide +kernel
theorem tyJ10_ok : ∀ k, k < 0 → parseFieldDescriptor (TJ10 k).2.2.1 = some (tyJ10 k) := by decide +kernel
def RL : String := "IdleDispatcherLaw"
abbrev cL_addServer : ByteArray := method_3_code
def yL_addServer : MethodName := ⟨RL, "addServer", "(LIdleDispatcher;[J)I"⟩
abbrev cL_addDispatcher : ByteArray := method_4_code
def yL_addDispatcher : MethodName := ⟨RL, "addDispatcher", "(LIdleDispatcher;I[J)I"⟩
abbrev cL_setPolicy : ByteArray := method_5_code
def yL_setPolicy : MethodName := ⟨RL, "setPolicy", "(LIdleDispatcher;II[J)I"⟩
abbrev cL_setJoinMode : ByteArray := method_6_code
def yL_setJoinMode : MethodName := ⟨RL, "setJoinMode", "(LIdleDispatcher;I[J)I"⟩
abbrev cL_setReportPeriod : ByteArray := method_7_code
def yL_setReportPeriod : MethodName := ⟨RL, "setReportPeriod", "(LIdleDispatcher;I[J)I"⟩
abbrev cL_setRandom : ByteArray := method_8_code
def yL_setRandom : MethodName := ⟨RL, "setRandom", "(LIdleDispatcher;I[J)I"⟩
abbrev cL_setUp : ByteArray := method_9_code
def yL_setUp : MethodName := ⟨RL, "setUp", "(LIdleDispatcher;IZ[J)I"⟩
abbrev cL_submit : ByteArray := method_10_code
def yL_submit : MethodName := ⟨RL, "submit", "(LIdleDispatcher;II[J)I"⟩
abbrev cL_tick : ByteArray := method_11_code
def yL_tick : MethodName := ⟨RL, "tick", "(LIdleDispatcher;I[J)I"⟩
abbrev cL_length : ByteArray := method_12_code
def yL_length : MethodName := ⟨RL, "length", "(LIdleDispatcher;I[J)I"⟩
abbrev cL_work : ByteArray := method_13_code
def yL_work : MethodName := ⟨RL, "work", "(LIdleDispatcher;I[J)I"⟩
abbrev cL_registeredAt : ByteArray := method_14_code
def yL_registeredAt : MethodName := ⟨RL, "registeredAt", "(LIdleDispatcher;I[J)I"⟩
abbrev cL_idleCount : ByteArray := method_15_code
def yL_idleCount : MethodName := ⟨RL, "idleCount", "(LIdleDispatcher;I[J)I"⟩
abbrev cL_idleAt : ByteArray := method_16_code
def yL_idleAt : MethodName := ⟨RL, "idleAt", "(LIdleDispatcher;II[J)I"⟩
abbrev cL_knownLength : ByteArray := method_17_code
def yL_knownLength : MethodName := ⟨RL, "knownLength", "(LIdleDispatcher;II[J)I"⟩
abbrev cL_expectedLength : ByteArray := method_18_code
def yL_expectedLength : MethodName := ⟨RL, "expectedLength", "(LIdleDispatcher;II[J)I"⟩
abbrev cL_serverOf : ByteArray := method_19_code
def yL_serverOf : MethodName := ⟨RL, "serverOf", "(LIdleDispatcher;I[J)I"⟩
abbrev cL_waitOf : ByteArray := method_20_code
def yL_waitOf : MethodName := ⟨RL, "waitOf", "(LIdleDispatcher;I[J)I"⟩
abbrev cL_undo : ByteArray := method_21_code
def yL_undo : MethodName := ⟨RL, "undo", "(LIdleDispatcher;[J)I"⟩
abbrev cL_law : ByteArray := code
def yL_law : MethodName := ⟨RL, "law", "([I)Z"⟩
def wsX0_init : List Cond := .code yX0_init cX0_init 1 none :: ([.methodLink RX0 3 objectInit, .instanceMethod objectInit, .code objectInit ⟨#[0xb1]⟩ 1 none, .fieldLink RX0 9 "IdleDispatcher$Dispatcher" "policy" "I", .fieldLink RX0 15 "IdleDispatcher$Dispatcher" "pointer" "I", .fieldLink RX0 18 "IdleDispatcher$Dispatcher" "idleCount" "I", .arrayClass .int, .fieldLink RX0 21 "IdleDispatcher$Dispatcher" "idle" "[I", .fieldLink RX0 25 "IdleDispatcher$Dispatcher" "known" "[I"] ++ wsX00)
def wsX0_copyFrom : List Cond := .code yX0_copyFrom cX0_copyFrom 2 none :: ([.fieldLink RX0 9 "IdleDispatcher$Dispatcher" "policy" "I", .fieldLink RX0 15 "IdleDispatcher$Dispatcher" "pointer" "I", .fieldLink RX0 18 "IdleDispatcher$Dispatcher" "idleCount" "I", .fieldLink RX0 21 "IdleDispatcher$Dispatcher" "idle" "[I", .methodLink RX0 28 arraycopyName, .native arraycopyName, .static arraycopyName, .initialized "java/lang/System", .fieldLink RX0 25 "IdleDispatcher$Dispatcher" "known" "[I"] ++ wsX00)
def wsX0_appendIdle : List Cond := .code yX0_appendIdle cX0_appendIdle 2 none :: ([.fieldLink RX0 18 "IdleDispatcher$Dispatcher" "idleCount" "I", .fieldLink RX0 21 "IdleDispatcher$Dispatcher" "idle" "[I"] ++ wsX00)
def wsX0_removeIdle : List Cond := .code yX0_removeIdle cX0_removeIdle 4 none :: ([.fieldLink RX0 18 "IdleDispatcher$Dispatcher" "idleCount" "I", .fieldLink RX0 21 "IdleDispatcher$Dispatcher" "idle" "[I"] ++ wsX00)
def wsX4_mix : List Cond := .code yX4_mix cX4_mix 4 (some .long) :: ([.constantLong RX4 203 (31)])
def wsX0_mixAll : List Cond := .code yX0_mixAll cX0_mixAll 7 (some .long) :: ([.fieldLink RX0 9 "IdleDispatcher$Dispatcher" "policy" "I", .fieldLink RX0 15 "IdleDispatcher$Dispatcher" "pointer" "I", .fieldLink RX0 18 "IdleDispatcher$Dispatcher" "idleCount" "I", .fieldLink RX0 21 "IdleDispatcher$Dispatcher" "idle" "[I", .fieldLink RX0 25 "IdleDispatcher$Dispatcher" "known" "[I", .static yX4_mix, .initialized RX4, .code yX4_mix cX4_mix 4 (some .long), .constantLong RX4 203 (31)] ++ wsX00)
def wsX1_init : List Cond := .code yX1_init cX1_init 1 none :: ([.methodLink RX1 3 objectInit, .instanceMethod objectInit, .code objectInit ⟨#[0xb1]⟩ 1 none, .fieldLink RX1 9 "IdleDispatcher$Jobs" "count" "I", .fieldLink RX1 15 "IdleDispatcher$Jobs" "finished" "I", .fieldLink RX1 18 "IdleDispatcher$Jobs" "begun" "I", .fieldLink RX1 21 "IdleDispatcher$Jobs" "waitSum" "I", .fieldLink RX1 24 "IdleDispatcher$Jobs" "missed" "I", .arrayClass .int, .fieldLink RX1 27 "IdleDispatcher$Jobs" "server" "[I", .fieldLink RX1 31 "IdleDispatcher$Jobs" "left" "[I", .fieldLink RX1 34 "IdleDispatcher$Jobs" "submittedAt" "[I", .fieldLink RX1 37 "IdleDispatcher$Jobs" "wait" "[I", .fieldLink RX1 40 "IdleDispatcher$Jobs" "next" "[I"] ++ wsX10)
def wsX1_copyFrom : List Cond := .code yX1_copyFrom cX1_copyFrom 2 none :: ([.fieldLink RX1 9 "IdleDispatcher$Jobs" "count" "I", .fieldLink RX1 15 "IdleDispatcher$Jobs" "finished" "I", .fieldLink RX1 18 "IdleDispatcher$Jobs" "begun" "I", .fieldLink RX1 21 "IdleDispatcher$Jobs" "waitSum" "I", .fieldLink RX1 24 "IdleDispatcher$Jobs" "missed" "I", .fieldLink RX1 27 "IdleDispatcher$Jobs" "server" "[I", .methodLink RX1 43 arraycopyName, .native arraycopyName, .static arraycopyName, .initialized "java/lang/System", .fieldLink RX1 31 "IdleDispatcher$Jobs" "left" "[I", .fieldLink RX1 34 "IdleDispatcher$Jobs" "submittedAt" "[I", .fieldLink RX1 37 "IdleDispatcher$Jobs" "wait" "[I", .fieldLink RX1 40 "IdleDispatcher$Jobs" "next" "[I"] ++ wsX10)
def wsX1_append : List Cond := .code yX1_append cX1_append 5 (some .int) :: ([.fieldLink RX1 9 "IdleDispatcher$Jobs" "count" "I", .fieldLink RX1 27 "IdleDispatcher$Jobs" "server" "[I", .fieldLink RX1 31 "IdleDispatcher$Jobs" "left" "[I", .fieldLink RX1 34 "IdleDispatcher$Jobs" "submittedAt" "[I", .fieldLink RX1 37 "IdleDispatcher$Jobs" "wait" "[I", .fieldLink RX1 40 "IdleDispatcher$Jobs" "next" "[I"] ++ wsX10)
def wsX1_begin : List Cond := .code yX1_begin cX1_begin 3 none :: ([.fieldLink RX1 37 "IdleDispatcher$Jobs" "wait" "[I", .fieldLink RX1 34 "IdleDispatcher$Jobs" "submittedAt" "[I", .fieldLink RX1 21 "IdleDispatcher$Jobs" "waitSum" "I", .fieldLink RX1 18 "IdleDispatcher$Jobs" "begun" "I"] ++ wsX10)
def wsX2_init : List Cond := .code yX2_init cX2_init 1 none :: ([.methodLink RX2 3 objectInit, .instanceMethod objectInit, .code objectInit ⟨#[0xb1]⟩ 1 none, .fieldLink RX2 9 "IdleDispatcher$Server" "up" "Z", .fieldLink RX2 15 "IdleDispatcher$Server" "length" "I", .fieldLink RX2 19 "IdleDispatcher$Server" "work" "I", .fieldLink RX2 22 "IdleDispatcher$Server" "registeredAt" "I", .fieldLink RX2 25 "IdleDispatcher$Server" "firstJob" "I", .fieldLink RX2 28 "IdleDispatcher$Server" "lastJob" "I"] ++ wsX20)
def wsX2_copyFrom : List Cond := .code yX2_copyFrom cX2_copyFrom 2 none :: ([.fieldLink RX2 9 "IdleDispatcher$Server" "up" "Z", .fieldLink RX2 15 "IdleDispatcher$Server" "length" "I", .fieldLink RX2 19 "IdleDispatcher$Server" "work" "I", .fieldLink RX2 22 "IdleDispatcher$Server" "registeredAt" "I", .fieldLink RX2 25 "IdleDispatcher$Server" "firstJob" "I", .fieldLink RX2 28 "IdleDispatcher$Server" "lastJob" "I"] ++ wsX20)
def wsX2_isIdle : List Cond := .code yX2_isIdle cX2_isIdle 1 (some .boolean) :: ([.fieldLink RX2 9 "IdleDispatcher$Server" "up" "Z", .fieldLink RX2 15 "IdleDispatcher$Server" "length" "I"] ++ wsX20)
def wsX2_mixAll : List Cond := .code yX2_mixAll cX2_mixAll 5 (some .long) :: ([.fieldLink RX2 9 "IdleDispatcher$Server" "up" "Z", .fieldLink RX2 15 "IdleDispatcher$Server" "length" "I", .fieldLink RX2 19 "IdleDispatcher$Server" "work" "I", .fieldLink RX2 22 "IdleDispatcher$Server" "registeredAt" "I", .static yX4_mix, .initialized RX4, .code yX4_mix cX4_mix 4 (some .long), .constantLong RX4 203 (31)] ++ wsX20)
def wsX3_init_r1 : List Cond := [Cond.methodLink RX3 3 objectInit, Cond.instanceMethod objectInit, Cond.code objectInit ⟨#[0xb1]⟩ 1 none, Cond.fieldLink RX3 9 "IdleDispatcher$State" "now" "I", Cond.fieldLink RX3 15 "IdleDispatcher$State" "random" "J", Cond.fieldLink RX3 19 "IdleDispatcher$State" "joinMode" "I", Cond.fieldLink RX3 22 "IdleDispatcher$State" "reportPeriod" "I", Cond.fieldLink RX3 25 "IdleDispatcher$State" "serverCount" "I", Cond.fieldLink RX3 28 "IdleDispatcher$State" "dispatcherCount" "I", Cond.classLink RX3 31 RX2, Cond.fieldLink RX3 33 "IdleDispatcher$State" "servers" "[LIdleDispatcher$Server;", Cond.instantiable RX2 6, Cond.initialized RX2, Cond.classLink RX3 38 RX0, Cond.fieldLink RX3 40 "IdleDispatcher$State" "dispatchers" "[LIdleDispatcher$Dispatcher;", Cond.instantiable RX0 5, Cond.initialized RX0, Cond.classLink RX3 45 RX1, Cond.instantiable RX1 10, Cond.initialized RX1, Cond.fieldLink RX3 48 "IdleDispatcher$State" "jobs" "LIdleDispatcher$Jobs;", Cond.fieldLink RX3 52 "IdleDispatcher$State" "candidateCount" "I", Cond.arrayClass .int, Cond.fieldLink RX3 55 "IdleDispatcher$State" "candidates" "[I"]
def wsX3_init_r2 : List Cond := [Cond.methodLink RX3 37 yX2_init, Cond.instanceMethod yX2_init, Cond.code yX2_init cX2_init 1 none, Cond.methodLink RX2 3 objectInit, Cond.fieldLink RX2 9 "IdleDispatcher$Server" "up" "Z", Cond.fieldLink RX2 15 "IdleDispatcher$Server" "length" "I", Cond.fieldLink RX2 19 "IdleDispatcher$Server" "work" "I", Cond.fieldLink RX2 22 "IdleDispatcher$Server" "registeredAt" "I", Cond.fieldLink RX2 25 "IdleDispatcher$Server" "firstJob" "I", Cond.fieldLink RX2 28 "IdleDispatcher$Server" "lastJob" "I", Cond.methodLink RX3 44 yX0_init, Cond.instanceMethod yX0_init, Cond.code yX0_init cX0_init 1 none, Cond.methodLink RX0 3 objectInit, Cond.fieldLink RX0 9 "IdleDispatcher$Dispatcher" "policy" "I", Cond.fieldLink RX0 15 "IdleDispatcher$Dispatcher" "pointer" "I", Cond.fieldLink RX0 18 "IdleDispatcher$Dispatcher" "idleCount" "I", Cond.fieldLink RX0 21 "IdleDispatcher$Dispatcher" "idle" "[I", Cond.fieldLink RX0 25 "IdleDispatcher$Dispatcher" "known" "[I", Cond.methodLink RX3 47 yX1_init, Cond.instanceMethod yX1_init, Cond.code yX1_init cX1_init 1 none, Cond.methodLink RX1 3 objectInit, Cond.fieldLink RX1 9 "IdleDispatcher$Jobs" "count" "I"]
def wsX3_init_r3 : List Cond := [Cond.fieldLink RX1 15 "IdleDispatcher$Jobs" "finished" "I", Cond.fieldLink RX1 18 "IdleDispatcher$Jobs" "begun" "I", Cond.fieldLink RX1 21 "IdleDispatcher$Jobs" "waitSum" "I", Cond.fieldLink RX1 24 "IdleDispatcher$Jobs" "missed" "I", Cond.fieldLink RX1 27 "IdleDispatcher$Jobs" "server" "[I", Cond.fieldLink RX1 31 "IdleDispatcher$Jobs" "left" "[I", Cond.fieldLink RX1 34 "IdleDispatcher$Jobs" "submittedAt" "[I", Cond.fieldLink RX1 37 "IdleDispatcher$Jobs" "wait" "[I", Cond.fieldLink RX1 40 "IdleDispatcher$Jobs" "next" "[I"]
def wsX3_init : List Cond := .code yX3_init cX3_init 2 none :: ((wsX3_init_r1 ++ (wsX3_init_r2 ++ wsX3_init_r3)) ++ wsX30 ++ wsX20 ++ wsX00 ++ wsX10)
def wsX3_collectCandidates : List Cond := .code yX3_collectCandidates cX3_collectCandidates 2 none :: ([.fieldLink RX3 52 "IdleDispatcher$State" "candidateCount" "I", .fieldLink RX3 25 "IdleDispatcher$State" "serverCount" "I", .fieldLink RX3 33 "IdleDispatcher$State" "servers" "[LIdleDispatcher$Server;", .fieldLink RX3 79 "IdleDispatcher$Server" "up" "Z", .fieldLink RX3 55 "IdleDispatcher$State" "candidates" "[I"] ++ wsX30 ++ wsX20)
def wsX3_copyFrom_r1 : List Cond := [Cond.fieldLink RX3 9 "IdleDispatcher$State" "now" "I", Cond.fieldLink RX3 15 "IdleDispatcher$State" "random" "J", Cond.fieldLink RX3 19 "IdleDispatcher$State" "joinMode" "I", Cond.fieldLink RX3 22 "IdleDispatcher$State" "reportPeriod" "I", Cond.fieldLink RX3 25 "IdleDispatcher$State" "serverCount" "I", Cond.fieldLink RX3 28 "IdleDispatcher$State" "dispatcherCount" "I", Cond.fieldLink RX3 33 "IdleDispatcher$State" "servers" "[LIdleDispatcher$Server;", Cond.fieldLink RX3 40 "IdleDispatcher$State" "dispatchers" "[LIdleDispatcher$Dispatcher;", Cond.fieldLink RX3 48 "IdleDispatcher$State" "jobs" "LIdleDispatcher$Jobs;", Cond.methodLink RX3 59 yX2_copyFrom, Cond.instanceMethod yX2_copyFrom, Cond.selects RX2 yX2_copyFrom yX2_copyFrom, Cond.initialized RX2, Cond.code yX2_copyFrom cX2_copyFrom 2 none, Cond.fieldLink RX2 9 "IdleDispatcher$Server" "up" "Z", Cond.fieldLink RX2 15 "IdleDispatcher$Server" "length" "I", Cond.fieldLink RX2 19 "IdleDispatcher$Server" "work" "I", Cond.fieldLink RX2 22 "IdleDispatcher$Server" "registeredAt" "I", Cond.fieldLink RX2 25 "IdleDispatcher$Server" "firstJob" "I", Cond.fieldLink RX2 28 "IdleDispatcher$Server" "lastJob" "I", Cond.methodLink RX3 63 yX0_copyFrom, Cond.instanceMethod yX0_copyFrom, Cond.selects RX0 yX0_copyFrom yX0_copyFrom, Cond.initialized RX0]
def wsX3_copyFrom_r2 : List Cond := [Cond.code yX0_copyFrom cX0_copyFrom 2 none, Cond.fieldLink RX0 9 "IdleDispatcher$Dispatcher" "policy" "I", Cond.fieldLink RX0 15 "IdleDispatcher$Dispatcher" "pointer" "I", Cond.fieldLink RX0 18 "IdleDispatcher$Dispatcher" "idleCount" "I", Cond.fieldLink RX0 21 "IdleDispatcher$Dispatcher" "idle" "[I", Cond.methodLink RX0 28 arraycopyName, Cond.native arraycopyName, Cond.static arraycopyName, Cond.initialized "java/lang/System", Cond.fieldLink RX0 25 "IdleDispatcher$Dispatcher" "known" "[I", Cond.methodLink RX3 66 yX1_copyFrom, Cond.instanceMethod yX1_copyFrom, Cond.selects RX1 yX1_copyFrom yX1_copyFrom, Cond.initialized RX1, Cond.code yX1_copyFrom cX1_copyFrom 2 none, Cond.fieldLink RX1 9 "IdleDispatcher$Jobs" "count" "I", Cond.fieldLink RX1 15 "IdleDispatcher$Jobs" "finished" "I", Cond.fieldLink RX1 18 "IdleDispatcher$Jobs" "begun" "I", Cond.fieldLink RX1 21 "IdleDispatcher$Jobs" "waitSum" "I", Cond.fieldLink RX1 24 "IdleDispatcher$Jobs" "missed" "I", Cond.fieldLink RX1 27 "IdleDispatcher$Jobs" "server" "[I", Cond.methodLink RX1 43 arraycopyName, Cond.fieldLink RX1 31 "IdleDispatcher$Jobs" "left" "[I", Cond.fieldLink RX1 34 "IdleDispatcher$Jobs" "submittedAt" "[I"]
def wsX3_copyFrom_r3 : List Cond := [Cond.fieldLink RX1 37 "IdleDispatcher$Jobs" "wait" "[I", Cond.fieldLink RX1 40 "IdleDispatcher$Jobs" "next" "[I", Cond.methodLink RX3 69 yX3_collectCandidates, Cond.instanceMethod yX3_collectCandidates, Cond.selects RX3 yX3_collectCandidates yX3_collectCandidates, Cond.initialized RX3, Cond.code yX3_collectCandidates cX3_collectCandidates 2 none, Cond.fieldLink RX3 52 "IdleDispatcher$State" "candidateCount" "I", Cond.fieldLink RX3 79 "IdleDispatcher$Server" "up" "Z", Cond.fieldLink RX3 55 "IdleDispatcher$State" "candidates" "[I"]
def wsX3_copyFrom : List Cond := .code yX3_copyFrom cX3_copyFrom 3 none :: ((wsX3_copyFrom_r1 ++ (wsX3_copyFrom_r2 ++ wsX3_copyFrom_r3)) ++ wsX30 ++ wsX20 ++ wsX00 ++ wsX10)
def wsX3_draw : List Cond := .code yX3_draw cX3_draw 2 (some .int) :: ([.fieldLink RX3 15 "IdleDispatcher$State" "random" "J", .constantLong RX3 89 (1103515245), .constantLong RX3 91 (12345), .constantLong RX3 93 (2147483648), .constantLong RX3 95 (65536)] ++ wsX30)
def wsX3_chooseList : List Cond := .code yX3_chooseList cX3_chooseList 4 (some .int) :: ([.fieldLink RX3 19 "IdleDispatcher$State" "joinMode" "I", .fieldLink RX3 28 "IdleDispatcher$State" "dispatcherCount" "I", .fieldLink RX3 40 "IdleDispatcher$State" "dispatchers" "[LIdleDispatcher$Dispatcher;", .fieldLink RX3 110 "IdleDispatcher$Dispatcher" "idleCount" "I", .methodLink RX3 107 yX3_draw, .instanceMethod yX3_draw, .selects RX3 yX3_draw yX3_draw, .initialized RX3, .code yX3_draw cX3_draw 2 (some .int), .fieldLink RX3 15 "IdleDispatcher$State" "random" "J", .constantLong RX3 89 (1103515245), .constantLong RX3 91 (12345), .constantLong RX3 93 (2147483648), .constantLong RX3 95 (65536)] ++ wsX30 ++ wsX00)
def wsX3_register_r1 : List Cond := [Cond.fieldLink RX3 28 "IdleDispatcher$State" "dispatcherCount" "I", Cond.fieldLink RX3 40 "IdleDispatcher$State" "dispatchers" "[LIdleDispatcher$Dispatcher;", Cond.fieldLink RX3 33 "IdleDispatcher$State" "servers" "[LIdleDispatcher$Server;", Cond.fieldLink RX3 104 "IdleDispatcher$Server" "registeredAt" "I", Cond.methodLink RX3 97 yX3_chooseList, Cond.instanceMethod yX3_chooseList, Cond.selects RX3 yX3_chooseList yX3_chooseList, Cond.initialized RX3, Cond.code yX3_chooseList cX3_chooseList 4 (some .int), Cond.fieldLink RX3 19 "IdleDispatcher$State" "joinMode" "I", Cond.fieldLink RX3 110 "IdleDispatcher$Dispatcher" "idleCount" "I", Cond.methodLink RX3 107 yX3_draw, Cond.instanceMethod yX3_draw, Cond.selects RX3 yX3_draw yX3_draw, Cond.code yX3_draw cX3_draw 2 (some .int), Cond.fieldLink RX3 15 "IdleDispatcher$State" "random" "J", Cond.constantLong RX3 89 (1103515245), Cond.constantLong RX3 91 (12345), Cond.constantLong RX3 93 (2147483648), Cond.constantLong RX3 95 (65536), Cond.methodLink RX3 101 yX0_appendIdle, Cond.instanceMethod yX0_appendIdle, Cond.selects RX0 yX0_appendIdle yX0_appendIdle, Cond.initialized RX0]
def wsX3_register_r2 : List Cond := [Cond.code yX0_appendIdle cX0_appendIdle 2 none, Cond.fieldLink RX0 18 "IdleDispatcher$Dispatcher" "idleCount" "I", Cond.fieldLink RX0 21 "IdleDispatcher$Dispatcher" "idle" "[I"]
def wsX3_register : List Cond := .code yX3_register cX3_register 3 none :: ((wsX3_register_r1 ++ wsX3_register_r2) ++ wsX30 ++ wsX20 ++ wsX00)
def wsX3_openServer_r1 : List Cond := [Cond.fieldLink RX3 25 "IdleDispatcher$State" "serverCount" "I", Cond.methodLink RX3 69 yX3_collectCandidates, Cond.instanceMethod yX3_collectCandidates, Cond.selects RX3 yX3_collectCandidates yX3_collectCandidates, Cond.initialized RX3, Cond.code yX3_collectCandidates cX3_collectCandidates 2 none, Cond.fieldLink RX3 52 "IdleDispatcher$State" "candidateCount" "I", Cond.fieldLink RX3 33 "IdleDispatcher$State" "servers" "[LIdleDispatcher$Server;", Cond.fieldLink RX3 79 "IdleDispatcher$Server" "up" "Z", Cond.fieldLink RX3 55 "IdleDispatcher$State" "candidates" "[I", Cond.methodLink RX3 72 yX3_register, Cond.instanceMethod yX3_register, Cond.selects RX3 yX3_register yX3_register, Cond.code yX3_register cX3_register 3 none, Cond.fieldLink RX3 28 "IdleDispatcher$State" "dispatcherCount" "I", Cond.fieldLink RX3 40 "IdleDispatcher$State" "dispatchers" "[LIdleDispatcher$Dispatcher;", Cond.fieldLink RX3 104 "IdleDispatcher$Server" "registeredAt" "I", Cond.methodLink RX3 97 yX3_chooseList, Cond.instanceMethod yX3_chooseList, Cond.selects RX3 yX3_chooseList yX3_chooseList, Cond.code yX3_chooseList cX3_chooseList 4 (some .int), Cond.fieldLink RX3 19 "IdleDispatcher$State" "joinMode" "I", Cond.fieldLink RX3 110 "IdleDispatcher$Dispatcher" "idleCount" "I", Cond.methodLink RX3 107 yX3_draw]
def wsX3_openServer_r2 : List Cond := [Cond.instanceMethod yX3_draw, Cond.selects RX3 yX3_draw yX3_draw, Cond.code yX3_draw cX3_draw 2 (some .int), Cond.fieldLink RX3 15 "IdleDispatcher$State" "random" "J", Cond.constantLong RX3 89 (1103515245), Cond.constantLong RX3 91 (12345), Cond.constantLong RX3 93 (2147483648), Cond.constantLong RX3 95 (65536), Cond.methodLink RX3 101 yX0_appendIdle, Cond.instanceMethod yX0_appendIdle, Cond.selects RX0 yX0_appendIdle yX0_appendIdle, Cond.initialized RX0, Cond.code yX0_appendIdle cX0_appendIdle 2 none, Cond.fieldLink RX0 18 "IdleDispatcher$Dispatcher" "idleCount" "I", Cond.fieldLink RX0 21 "IdleDispatcher$Dispatcher" "idle" "[I"]
def wsX3_openServer : List Cond := .code yX3_openServer cX3_openServer 2 (some .int) :: ((wsX3_openServer_r1 ++ wsX3_openServer_r2) ++ wsX30 ++ wsX20 ++ wsX00)
def wsX3_openDispatcher : List Cond := .code yX3_openDispatcher cX3_openDispatcher 3 (some .int) :: ([.fieldLink RX3 28 "IdleDispatcher$State" "dispatcherCount" "I", .fieldLink RX3 40 "IdleDispatcher$State" "dispatchers" "[LIdleDispatcher$Dispatcher;", .fieldLink RX3 76 "IdleDispatcher$Dispatcher" "policy" "I"] ++ wsX30 ++ wsX00)
def wsX3_leaveIdleList : List Cond := .code yX3_leaveIdleList cX3_leaveIdleList 3 none :: ([.fieldLink RX3 33 "IdleDispatcher$State" "servers" "[LIdleDispatcher$Server;", .fieldLink RX3 104 "IdleDispatcher$Server" "registeredAt" "I", .fieldLink RX3 40 "IdleDispatcher$State" "dispatchers" "[LIdleDispatcher$Dispatcher;", .methodLink RX3 113 yX0_removeIdle, .instanceMethod yX0_removeIdle, .selects RX0 yX0_removeIdle yX0_removeIdle, .initialized RX0, .code yX0_removeIdle cX0_removeIdle 4 none, .fieldLink RX0 18 "IdleDispatcher$Dispatcher" "idleCount" "I", .fieldLink RX0 21 "IdleDispatcher$Dispatcher" "idle" "[I"] ++ wsX30 ++ wsX20 ++ wsX00)
def wsX3_switchServer_r1 : List Cond := [Cond.fieldLink RX3 33 "IdleDispatcher$State" "servers" "[LIdleDispatcher$Server;", Cond.fieldLink RX3 79 "IdleDispatcher$Server" "up" "Z", Cond.fieldLink RX3 86 "IdleDispatcher$Server" "length" "I", Cond.methodLink RX3 69 yX3_collectCandidates, Cond.instanceMethod yX3_collectCandidates, Cond.selects RX3 yX3_collectCandidates yX3_collectCandidates, Cond.initialized RX3, Cond.code yX3_collectCandidates cX3_collectCandidates 2 none, Cond.fieldLink RX3 52 "IdleDispatcher$State" "candidateCount" "I", Cond.fieldLink RX3 25 "IdleDispatcher$State" "serverCount" "I", Cond.fieldLink RX3 55 "IdleDispatcher$State" "candidates" "[I", Cond.methodLink RX3 83 yX3_leaveIdleList, Cond.instanceMethod yX3_leaveIdleList, Cond.selects RX3 yX3_leaveIdleList yX3_leaveIdleList, Cond.code yX3_leaveIdleList cX3_leaveIdleList 3 none, Cond.fieldLink RX3 104 "IdleDispatcher$Server" "registeredAt" "I", Cond.fieldLink RX3 40 "IdleDispatcher$State" "dispatchers" "[LIdleDispatcher$Dispatcher;", Cond.methodLink RX3 113 yX0_removeIdle, Cond.instanceMethod yX0_removeIdle, Cond.selects RX0 yX0_removeIdle yX0_removeIdle, Cond.initialized RX0, Cond.code yX0_removeIdle cX0_removeIdle 4 none, Cond.fieldLink RX0 18 "IdleDispatcher$Dispatcher" "idleCount" "I", Cond.fieldLink RX0 21 "IdleDispatcher$Dispatcher" "idle" "[I"]
def wsX3_switchServer_r2 : List Cond := [Cond.methodLink RX3 72 yX3_register, Cond.instanceMethod yX3_register, Cond.selects RX3 yX3_register yX3_register, Cond.code yX3_register cX3_register 3 none, Cond.fieldLink RX3 28 "IdleDispatcher$State" "dispatcherCount" "I", Cond.methodLink RX3 97 yX3_chooseList, Cond.instanceMethod yX3_chooseList, Cond.selects RX3 yX3_chooseList yX3_chooseList, Cond.code yX3_chooseList cX3_chooseList 4 (some .int), Cond.fieldLink RX3 19 "IdleDispatcher$State" "joinMode" "I", Cond.fieldLink RX3 110 "IdleDispatcher$Dispatcher" "idleCount" "I", Cond.methodLink RX3 107 yX3_draw, Cond.instanceMethod yX3_draw, Cond.selects RX3 yX3_draw yX3_draw, Cond.code yX3_draw cX3_draw 2 (some .int), Cond.fieldLink RX3 15 "IdleDispatcher$State" "random" "J", Cond.constantLong RX3 89 (1103515245), Cond.constantLong RX3 91 (12345), Cond.constantLong RX3 93 (2147483648), Cond.constantLong RX3 95 (65536), Cond.methodLink RX3 101 yX0_appendIdle, Cond.instanceMethod yX0_appendIdle, Cond.selects RX0 yX0_appendIdle yX0_appendIdle, Cond.code yX0_appendIdle cX0_appendIdle 2 none]
def wsX3_switchServer : List Cond := .code yX3_switchServer cX3_switchServer 5 (some .boolean) :: ((wsX3_switchServer_r1 ++ wsX3_switchServer_r2) ++ wsX30 ++ wsX20 ++ wsX00)
def wsX3_nextInTurn : List Cond := .code yX3_nextInTurn cX3_nextInTurn 3 (some .int) :: ([.fieldLink RX3 52 "IdleDispatcher$State" "candidateCount" "I", .fieldLink RX3 55 "IdleDispatcher$State" "candidates" "[I"] ++ wsX30)
def wsX3_leastKnown : List Cond := .code yX3_leastKnown cX3_leastKnown 4 (some .int) :: ([.fieldLink RX3 55 "IdleDispatcher$State" "candidates" "[I", .fieldLink RX3 52 "IdleDispatcher$State" "candidateCount" "I"] ++ wsX30)
def wsX3_certainServer : List Cond := .code yX3_certainServer cX3_certainServer 2 (some .int) :: ([.fieldLink RX3 76 "IdleDispatcher$Dispatcher" "policy" "I", .fieldLink RX3 116 "IdleDispatcher$Dispatcher" "pointer" "I", .fieldLink RX3 110 "IdleDispatcher$Dispatcher" "idleCount" "I", .fieldLink RX3 122 "IdleDispatcher$Dispatcher" "idle" "[I", .fieldLink RX3 125 "IdleDispatcher$Dispatcher" "known" "[I", .methodLink RX3 119 yX3_nextInTurn, .instanceMethod yX3_nextInTurn, .selects RX3 yX3_nextInTurn yX3_nextInTurn, .initialized RX3, .code yX3_nextInTurn cX3_nextInTurn 3 (some .int), .fieldLink RX3 52 "IdleDispatcher$State" "candidateCount" "I", .fieldLink RX3 55 "IdleDispatcher$State" "candidates" "[I", .methodLink RX3 128 yX3_leastKnown, .instanceMethod yX3_leastKnown, .selects RX3 yX3_leastKnown yX3_leastKnown, .code yX3_leastKnown cX3_leastKnown 4 (some .int)] ++ wsX00 ++ wsX30)
def wsX3_drawServer : List Cond := .code yX3_drawServer cX3_drawServer 4 (some .int) :: ([.fieldLink RX3 55 "IdleDispatcher$State" "candidates" "[I", .fieldLink RX3 52 "IdleDispatcher$State" "candidateCount" "I", .fieldLink RX3 33 "IdleDispatcher$State" "servers" "[LIdleDispatcher$Server;", .fieldLink RX3 86 "IdleDispatcher$Server" "length" "I", .methodLink RX3 107 yX3_draw, .instanceMethod yX3_draw, .selects RX3 yX3_draw yX3_draw, .initialized RX3, .code yX3_draw cX3_draw 2 (some .int), .fieldLink RX3 15 "IdleDispatcher$State" "random" "J", .constantLong RX3 89 (1103515245), .constantLong RX3 91 (12345), .constantLong RX3 93 (2147483648), .constantLong RX3 95 (65536)] ++ wsX30 ++ wsX20)
def wsX3_takeServer_r1 : List Cond := [Cond.fieldLink RX3 76 "IdleDispatcher$Dispatcher" "policy" "I", Cond.fieldLink RX3 116 "IdleDispatcher$Dispatcher" "pointer" "I", Cond.fieldLink RX3 125 "IdleDispatcher$Dispatcher" "known" "[I", Cond.methodLink RX3 132 yX3_certainServer, Cond.instanceMethod yX3_certainServer, Cond.selects RX3 yX3_certainServer yX3_certainServer, Cond.initialized RX3, Cond.code yX3_certainServer cX3_certainServer 2 (some .int), Cond.fieldLink RX3 110 "IdleDispatcher$Dispatcher" "idleCount" "I", Cond.fieldLink RX3 122 "IdleDispatcher$Dispatcher" "idle" "[I", Cond.methodLink RX3 119 yX3_nextInTurn, Cond.instanceMethod yX3_nextInTurn, Cond.selects RX3 yX3_nextInTurn yX3_nextInTurn, Cond.code yX3_nextInTurn cX3_nextInTurn 3 (some .int), Cond.fieldLink RX3 52 "IdleDispatcher$State" "candidateCount" "I", Cond.fieldLink RX3 55 "IdleDispatcher$State" "candidates" "[I", Cond.methodLink RX3 128 yX3_leastKnown, Cond.instanceMethod yX3_leastKnown, Cond.selects RX3 yX3_leastKnown yX3_leastKnown, Cond.code yX3_leastKnown cX3_leastKnown 4 (some .int), Cond.methodLink RX3 136 yX3_drawServer, Cond.instanceMethod yX3_drawServer, Cond.selects RX3 yX3_drawServer yX3_drawServer, Cond.code yX3_drawServer cX3_drawServer 4 (some .int)]
def wsX3_takeServer_r2 : List Cond := [Cond.fieldLink RX3 33 "IdleDispatcher$State" "servers" "[LIdleDispatcher$Server;", Cond.fieldLink RX3 86 "IdleDispatcher$Server" "length" "I", Cond.methodLink RX3 107 yX3_draw, Cond.instanceMethod yX3_draw, Cond.selects RX3 yX3_draw yX3_draw, Cond.code yX3_draw cX3_draw 2 (some .int), Cond.fieldLink RX3 15 "IdleDispatcher$State" "random" "J", Cond.constantLong RX3 89 (1103515245), Cond.constantLong RX3 91 (12345), Cond.constantLong RX3 93 (2147483648), Cond.constantLong RX3 95 (65536)]
def wsX3_takeServer : List Cond := .code yX3_takeServer cX3_takeServer 4 (some .int) :: ((wsX3_takeServer_r1 ++ wsX3_takeServer_r2) ++ wsX00 ++ wsX30 ++ wsX20)
def wsX3_sumOverPairs : List Cond := .code yX3_sumOverPairs cX3_sumOverPairs 5 (some .int) :: ([.fieldLink RX3 52 "IdleDispatcher$State" "candidateCount" "I", .fieldLink RX3 33 "IdleDispatcher$State" "servers" "[LIdleDispatcher$Server;", .fieldLink RX3 55 "IdleDispatcher$State" "candidates" "[I", .fieldLink RX3 86 "IdleDispatcher$Server" "length" "I", .methodLink RX3 146 Lib.Math.min.name, .static Lib.Math.min.name, .initialized "java/lang/Math", .code Lib.Math.min.name Lib.Math.min.code 2 (some .int)] ++ wsX30 ++ wsX20)
def wsX3_sumOverCandidates : List Cond := .code yX3_sumOverCandidates cX3_sumOverCandidates 3 (some .int) :: ([.fieldLink RX3 52 "IdleDispatcher$State" "candidateCount" "I", .fieldLink RX3 33 "IdleDispatcher$State" "servers" "[LIdleDispatcher$Server;", .fieldLink RX3 55 "IdleDispatcher$State" "candidates" "[I", .fieldLink RX3 86 "IdleDispatcher$Server" "length" "I"] ++ wsX30 ++ wsX20)
def wsX3_sumOverOutcomes_r1 : List Cond := [Cond.fieldLink RX3 40 "IdleDispatcher$State" "dispatchers" "[LIdleDispatcher$Dispatcher;", Cond.fieldLink RX3 33 "IdleDispatcher$State" "servers" "[LIdleDispatcher$Server;", Cond.fieldLink RX3 86 "IdleDispatcher$Server" "length" "I", Cond.fieldLink RX3 76 "IdleDispatcher$Dispatcher" "policy" "I", Cond.methodLink RX3 132 yX3_certainServer, Cond.instanceMethod yX3_certainServer, Cond.selects RX3 yX3_certainServer yX3_certainServer, Cond.initialized RX3, Cond.code yX3_certainServer cX3_certainServer 2 (some .int), Cond.fieldLink RX3 116 "IdleDispatcher$Dispatcher" "pointer" "I", Cond.fieldLink RX3 110 "IdleDispatcher$Dispatcher" "idleCount" "I", Cond.fieldLink RX3 122 "IdleDispatcher$Dispatcher" "idle" "[I", Cond.fieldLink RX3 125 "IdleDispatcher$Dispatcher" "known" "[I", Cond.methodLink RX3 119 yX3_nextInTurn, Cond.instanceMethod yX3_nextInTurn, Cond.selects RX3 yX3_nextInTurn yX3_nextInTurn, Cond.code yX3_nextInTurn cX3_nextInTurn 3 (some .int), Cond.fieldLink RX3 52 "IdleDispatcher$State" "candidateCount" "I", Cond.fieldLink RX3 55 "IdleDispatcher$State" "candidates" "[I", Cond.methodLink RX3 128 yX3_leastKnown, Cond.instanceMethod yX3_leastKnown, Cond.selects RX3 yX3_leastKnown yX3_leastKnown, Cond.code yX3_leastKnown cX3_leastKnown 4 (some .int), Cond.methodLink RX3 139 yX3_sumOverPairs]
def wsX3_sumOverOutcomes_r2 : List Cond := [Cond.instanceMethod yX3_sumOverPairs, Cond.selects RX3 yX3_sumOverPairs yX3_sumOverPairs, Cond.code yX3_sumOverPairs cX3_sumOverPairs 5 (some .int), Cond.methodLink RX3 146 Lib.Math.min.name, Cond.static Lib.Math.min.name, Cond.initialized "java/lang/Math", Cond.code Lib.Math.min.name Lib.Math.min.code 2 (some .int), Cond.methodLink RX3 143 yX3_sumOverCandidates, Cond.instanceMethod yX3_sumOverCandidates, Cond.selects RX3 yX3_sumOverCandidates yX3_sumOverCandidates, Cond.code yX3_sumOverCandidates cX3_sumOverCandidates 3 (some .int)]
def wsX3_sumOverOutcomes : List Cond := .code yX3_sumOverOutcomes cX3_sumOverOutcomes 4 (some .int) :: ((wsX3_sumOverOutcomes_r1 ++ wsX3_sumOverOutcomes_r2) ++ wsX30 ++ wsX20 ++ wsX00)
def wsX3_countOutcomes : List Cond := .code yX3_countOutcomes cX3_countOutcomes 3 (some .int) :: ([.fieldLink RX3 40 "IdleDispatcher$State" "dispatchers" "[LIdleDispatcher$Dispatcher;", .fieldLink RX3 76 "IdleDispatcher$Dispatcher" "policy" "I", .fieldLink RX3 52 "IdleDispatcher$State" "candidateCount" "I", .methodLink RX3 132 yX3_certainServer, .instanceMethod yX3_certainServer, .selects RX3 yX3_certainServer yX3_certainServer, .initialized RX3, .code yX3_certainServer cX3_certainServer 2 (some .int), .fieldLink RX3 116 "IdleDispatcher$Dispatcher" "pointer" "I", .fieldLink RX3 110 "IdleDispatcher$Dispatcher" "idleCount" "I", .fieldLink RX3 122 "IdleDispatcher$Dispatcher" "idle" "[I", .fieldLink RX3 125 "IdleDispatcher$Dispatcher" "known" "[I", .methodLink RX3 119 yX3_nextInTurn, .instanceMethod yX3_nextInTurn, .selects RX3 yX3_nextInTurn yX3_nextInTurn, .code yX3_nextInTurn cX3_nextInTurn 3 (some .int), .fieldLink RX3 55 "IdleDispatcher$State" "candidates" "[I", .methodLink RX3 128 yX3_leastKnown, .instanceMethod yX3_leastKnown, .selects RX3 yX3_leastKnown yX3_leastKnown, .code yX3_leastKnown cX3_leastKnown 4 (some .int)] ++ wsX30 ++ wsX00)
def wsX3_anyIdle : List Cond := .code yX3_anyIdle cX3_anyIdle 2 (some .boolean) :: ([.fieldLink RX3 25 "IdleDispatcher$State" "serverCount" "I", .fieldLink RX3 33 "IdleDispatcher$State" "servers" "[LIdleDispatcher$Server;", .methodLink RX3 166 yX2_isIdle, .instanceMethod yX2_isIdle, .selects RX2 yX2_isIdle yX2_isIdle, .initialized RX2, .code yX2_isIdle cX2_isIdle 1 (some .boolean), .fieldLink RX2 9 "IdleDispatcher$Server" "up" "Z", .fieldLink RX2 15 "IdleDispatcher$Server" "length" "I"] ++ wsX30 ++ wsX20)
def wsX3_enqueue_r1 : List Cond := [Cond.fieldLink RX3 48 "IdleDispatcher$State" "jobs" "LIdleDispatcher$Jobs;", Cond.fieldLink RX3 9 "IdleDispatcher$State" "now" "I", Cond.fieldLink RX3 33 "IdleDispatcher$State" "servers" "[LIdleDispatcher$Server;", Cond.fieldLink RX3 173 "IdleDispatcher$Server" "lastJob" "I", Cond.fieldLink RX3 176 "IdleDispatcher$Server" "firstJob" "I", Cond.fieldLink RX3 182 "IdleDispatcher$Jobs" "next" "[I", Cond.fieldLink RX3 86 "IdleDispatcher$Server" "length" "I", Cond.fieldLink RX3 185 "IdleDispatcher$Server" "work" "I", Cond.methodLink RX3 169 yX1_append, Cond.instanceMethod yX1_append, Cond.selects RX1 yX1_append yX1_append, Cond.initialized RX1, Cond.code yX1_append cX1_append 5 (some .int), Cond.fieldLink RX1 9 "IdleDispatcher$Jobs" "count" "I", Cond.fieldLink RX1 27 "IdleDispatcher$Jobs" "server" "[I", Cond.fieldLink RX1 31 "IdleDispatcher$Jobs" "left" "[I", Cond.fieldLink RX1 34 "IdleDispatcher$Jobs" "submittedAt" "[I", Cond.fieldLink RX1 37 "IdleDispatcher$Jobs" "wait" "[I", Cond.fieldLink RX1 40 "IdleDispatcher$Jobs" "next" "[I", Cond.methodLink RX3 179 yX1_begin, Cond.instanceMethod yX1_begin, Cond.selects RX1 yX1_begin yX1_begin, Cond.code yX1_begin cX1_begin 3 none, Cond.fieldLink RX1 21 "IdleDispatcher$Jobs" "waitSum" "I"]
def wsX3_enqueue_r2 : List Cond := [Cond.fieldLink RX1 18 "IdleDispatcher$Jobs" "begun" "I"]
def wsX3_enqueue : List Cond := .code yX3_enqueue cX3_enqueue 5 none :: ((wsX3_enqueue_r1 ++ wsX3_enqueue_r2) ++ wsX30 ++ wsX20 ++ wsX10)
def wsX3_dispatch_r1 : List Cond := [Cond.fieldLink RX3 40 "IdleDispatcher$State" "dispatchers" "[LIdleDispatcher$Dispatcher;", Cond.fieldLink RX3 33 "IdleDispatcher$State" "servers" "[LIdleDispatcher$Server;", Cond.fieldLink RX3 86 "IdleDispatcher$Server" "length" "I", Cond.fieldLink RX3 48 "IdleDispatcher$State" "jobs" "LIdleDispatcher$Jobs;", Cond.fieldLink RX3 159 "IdleDispatcher$Jobs" "missed" "I", Cond.methodLink RX3 152 yX3_takeServer, Cond.instanceMethod yX3_takeServer, Cond.selects RX3 yX3_takeServer yX3_takeServer, Cond.initialized RX3, Cond.code yX3_takeServer cX3_takeServer 4 (some .int), Cond.fieldLink RX3 76 "IdleDispatcher$Dispatcher" "policy" "I", Cond.fieldLink RX3 116 "IdleDispatcher$Dispatcher" "pointer" "I", Cond.fieldLink RX3 125 "IdleDispatcher$Dispatcher" "known" "[I", Cond.methodLink RX3 132 yX3_certainServer, Cond.instanceMethod yX3_certainServer, Cond.selects RX3 yX3_certainServer yX3_certainServer, Cond.code yX3_certainServer cX3_certainServer 2 (some .int), Cond.fieldLink RX3 110 "IdleDispatcher$Dispatcher" "idleCount" "I", Cond.fieldLink RX3 122 "IdleDispatcher$Dispatcher" "idle" "[I", Cond.methodLink RX3 119 yX3_nextInTurn, Cond.instanceMethod yX3_nextInTurn, Cond.selects RX3 yX3_nextInTurn yX3_nextInTurn, Cond.code yX3_nextInTurn cX3_nextInTurn 3 (some .int), Cond.fieldLink RX3 52 "IdleDispatcher$State" "candidateCount" "I"]
def wsX3_dispatch_r2 : List Cond := [Cond.fieldLink RX3 55 "IdleDispatcher$State" "candidates" "[I", Cond.methodLink RX3 128 yX3_leastKnown, Cond.instanceMethod yX3_leastKnown, Cond.selects RX3 yX3_leastKnown yX3_leastKnown, Cond.code yX3_leastKnown cX3_leastKnown 4 (some .int), Cond.methodLink RX3 136 yX3_drawServer, Cond.instanceMethod yX3_drawServer, Cond.selects RX3 yX3_drawServer yX3_drawServer, Cond.code yX3_drawServer cX3_drawServer 4 (some .int), Cond.methodLink RX3 107 yX3_draw, Cond.instanceMethod yX3_draw, Cond.selects RX3 yX3_draw yX3_draw, Cond.code yX3_draw cX3_draw 2 (some .int), Cond.fieldLink RX3 15 "IdleDispatcher$State" "random" "J", Cond.constantLong RX3 89 (1103515245), Cond.constantLong RX3 91 (12345), Cond.constantLong RX3 93 (2147483648), Cond.constantLong RX3 95 (65536), Cond.methodLink RX3 155 yX3_anyIdle, Cond.instanceMethod yX3_anyIdle, Cond.selects RX3 yX3_anyIdle yX3_anyIdle, Cond.code yX3_anyIdle cX3_anyIdle 2 (some .boolean), Cond.fieldLink RX3 25 "IdleDispatcher$State" "serverCount" "I", Cond.methodLink RX3 166 yX2_isIdle]
def wsX3_dispatch_r3 : List Cond := [Cond.instanceMethod yX2_isIdle, Cond.selects RX2 yX2_isIdle yX2_isIdle, Cond.initialized RX2, Cond.code yX2_isIdle cX2_isIdle 1 (some .boolean), Cond.fieldLink RX2 9 "IdleDispatcher$Server" "up" "Z", Cond.fieldLink RX2 15 "IdleDispatcher$Server" "length" "I", Cond.methodLink RX3 83 yX3_leaveIdleList, Cond.instanceMethod yX3_leaveIdleList, Cond.selects RX3 yX3_leaveIdleList yX3_leaveIdleList, Cond.code yX3_leaveIdleList cX3_leaveIdleList 3 none, Cond.fieldLink RX3 104 "IdleDispatcher$Server" "registeredAt" "I", Cond.methodLink RX3 113 yX0_removeIdle, Cond.instanceMethod yX0_removeIdle, Cond.selects RX0 yX0_removeIdle yX0_removeIdle, Cond.initialized RX0, Cond.code yX0_removeIdle cX0_removeIdle 4 none, Cond.fieldLink RX0 18 "IdleDispatcher$Dispatcher" "idleCount" "I", Cond.fieldLink RX0 21 "IdleDispatcher$Dispatcher" "idle" "[I", Cond.methodLink RX3 162 yX3_enqueue, Cond.instanceMethod yX3_enqueue, Cond.selects RX3 yX3_enqueue yX3_enqueue, Cond.code yX3_enqueue cX3_enqueue 5 none, Cond.fieldLink RX3 9 "IdleDispatcher$State" "now" "I", Cond.fieldLink RX3 173 "IdleDispatcher$Server" "lastJob" "I"]
def wsX3_dispatch_r4 : List Cond := [Cond.fieldLink RX3 176 "IdleDispatcher$Server" "firstJob" "I", Cond.fieldLink RX3 182 "IdleDispatcher$Jobs" "next" "[I", Cond.fieldLink RX3 185 "IdleDispatcher$Server" "work" "I", Cond.methodLink RX3 169 yX1_append, Cond.instanceMethod yX1_append, Cond.selects RX1 yX1_append yX1_append, Cond.initialized RX1, Cond.code yX1_append cX1_append 5 (some .int), Cond.fieldLink RX1 9 "IdleDispatcher$Jobs" "count" "I", Cond.fieldLink RX1 27 "IdleDispatcher$Jobs" "server" "[I", Cond.fieldLink RX1 31 "IdleDispatcher$Jobs" "left" "[I", Cond.fieldLink RX1 34 "IdleDispatcher$Jobs" "submittedAt" "[I", Cond.fieldLink RX1 37 "IdleDispatcher$Jobs" "wait" "[I", Cond.fieldLink RX1 40 "IdleDispatcher$Jobs" "next" "[I", Cond.methodLink RX3 179 yX1_begin, Cond.instanceMethod yX1_begin, Cond.selects RX1 yX1_begin yX1_begin, Cond.code yX1_begin cX1_begin 3 none, Cond.fieldLink RX1 21 "IdleDispatcher$Jobs" "waitSum" "I", Cond.fieldLink RX1 18 "IdleDispatcher$Jobs" "begun" "I"]
def wsX3_dispatch : List Cond := .code yX3_dispatch cX3_dispatch 4 (some .int) :: ((wsX3_dispatch_r1 ++ (wsX3_dispatch_r2 ++ (wsX3_dispatch_r3 ++ wsX3_dispatch_r4))) ++ wsX30 ++ wsX20 ++ wsX10 ++ wsX00)
def wsX3_finish : List Cond := .code yX3_finish cX3_finish 3 none :: ([.fieldLink RX3 48 "IdleDispatcher$State" "jobs" "LIdleDispatcher$Jobs;", .fieldLink RX3 201 "IdleDispatcher$Jobs" "finished" "I", .fieldLink RX3 86 "IdleDispatcher$Server" "length" "I", .fieldLink RX3 182 "IdleDispatcher$Jobs" "next" "[I", .fieldLink RX3 176 "IdleDispatcher$Server" "firstJob" "I", .fieldLink RX3 173 "IdleDispatcher$Server" "lastJob" "I", .fieldLink RX3 9 "IdleDispatcher$State" "now" "I", .methodLink RX3 179 yX1_begin, .instanceMethod yX1_begin, .selects RX1 yX1_begin yX1_begin, .initialized RX1, .code yX1_begin cX1_begin 3 none, .fieldLink RX1 37 "IdleDispatcher$Jobs" "wait" "[I", .fieldLink RX1 34 "IdleDispatcher$Jobs" "submittedAt" "[I", .fieldLink RX1 21 "IdleDispatcher$Jobs" "waitSum" "I", .fieldLink RX1 18 "IdleDispatcher$Jobs" "begun" "I"] ++ wsX30 ++ wsX10 ++ wsX20)
def wsX3_serve_r1 : List Cond := [Cond.fieldLink RX3 33 "IdleDispatcher$State" "servers" "[LIdleDispatcher$Server;", Cond.fieldLink RX3 176 "IdleDispatcher$Server" "firstJob" "I", Cond.fieldLink RX3 185 "IdleDispatcher$Server" "work" "I", Cond.fieldLink RX3 48 "IdleDispatcher$State" "jobs" "LIdleDispatcher$Jobs;", Cond.fieldLink RX3 194 "IdleDispatcher$Jobs" "left" "[I", Cond.methodLink RX3 197 yX3_finish, Cond.instanceMethod yX3_finish, Cond.selects RX3 yX3_finish yX3_finish, Cond.initialized RX3, Cond.code yX3_finish cX3_finish 3 none, Cond.fieldLink RX3 201 "IdleDispatcher$Jobs" "finished" "I", Cond.fieldLink RX3 86 "IdleDispatcher$Server" "length" "I", Cond.fieldLink RX3 182 "IdleDispatcher$Jobs" "next" "[I", Cond.fieldLink RX3 173 "IdleDispatcher$Server" "lastJob" "I", Cond.fieldLink RX3 9 "IdleDispatcher$State" "now" "I", Cond.methodLink RX3 179 yX1_begin, Cond.instanceMethod yX1_begin, Cond.selects RX1 yX1_begin yX1_begin, Cond.initialized RX1, Cond.code yX1_begin cX1_begin 3 none, Cond.fieldLink RX1 37 "IdleDispatcher$Jobs" "wait" "[I", Cond.fieldLink RX1 34 "IdleDispatcher$Jobs" "submittedAt" "[I", Cond.fieldLink RX1 21 "IdleDispatcher$Jobs" "waitSum" "I", Cond.fieldLink RX1 18 "IdleDispatcher$Jobs" "begun" "I"]
def wsX3_serve_r2 : List Cond := [Cond.methodLink RX3 166 yX2_isIdle, Cond.instanceMethod yX2_isIdle, Cond.selects RX2 yX2_isIdle yX2_isIdle, Cond.initialized RX2, Cond.code yX2_isIdle cX2_isIdle 1 (some .boolean), Cond.fieldLink RX2 9 "IdleDispatcher$Server" "up" "Z", Cond.fieldLink RX2 15 "IdleDispatcher$Server" "length" "I", Cond.methodLink RX3 72 yX3_register, Cond.instanceMethod yX3_register, Cond.selects RX3 yX3_register yX3_register, Cond.code yX3_register cX3_register 3 none, Cond.fieldLink RX3 28 "IdleDispatcher$State" "dispatcherCount" "I", Cond.fieldLink RX3 40 "IdleDispatcher$State" "dispatchers" "[LIdleDispatcher$Dispatcher;", Cond.fieldLink RX3 104 "IdleDispatcher$Server" "registeredAt" "I", Cond.methodLink RX3 97 yX3_chooseList, Cond.instanceMethod yX3_chooseList, Cond.selects RX3 yX3_chooseList yX3_chooseList, Cond.code yX3_chooseList cX3_chooseList 4 (some .int), Cond.fieldLink RX3 19 "IdleDispatcher$State" "joinMode" "I", Cond.fieldLink RX3 110 "IdleDispatcher$Dispatcher" "idleCount" "I", Cond.methodLink RX3 107 yX3_draw, Cond.instanceMethod yX3_draw, Cond.selects RX3 yX3_draw yX3_draw, Cond.code yX3_draw cX3_draw 2 (some .int)]
def wsX3_serve_r3 : List Cond := [Cond.fieldLink RX3 15 "IdleDispatcher$State" "random" "J", Cond.constantLong RX3 89 (1103515245), Cond.constantLong RX3 91 (12345), Cond.constantLong RX3 93 (2147483648), Cond.constantLong RX3 95 (65536), Cond.methodLink RX3 101 yX0_appendIdle, Cond.instanceMethod yX0_appendIdle, Cond.selects RX0 yX0_appendIdle yX0_appendIdle, Cond.initialized RX0, Cond.code yX0_appendIdle cX0_appendIdle 2 none, Cond.fieldLink RX0 18 "IdleDispatcher$Dispatcher" "idleCount" "I", Cond.fieldLink RX0 21 "IdleDispatcher$Dispatcher" "idle" "[I"]
def wsX3_serve : List Cond := .code yX3_serve cX3_serve 4 none :: ((wsX3_serve_r1 ++ (wsX3_serve_r2 ++ wsX3_serve_r3)) ++ wsX30 ++ wsX20 ++ wsX10 ++ wsX00)
def wsX3_report : List Cond := .code yX3_report cX3_report 3 none :: ([.fieldLink RX3 28 "IdleDispatcher$State" "dispatcherCount" "I", .fieldLink RX3 25 "IdleDispatcher$State" "serverCount" "I", .fieldLink RX3 40 "IdleDispatcher$State" "dispatchers" "[LIdleDispatcher$Dispatcher;", .fieldLink RX3 125 "IdleDispatcher$Dispatcher" "known" "[I", .fieldLink RX3 33 "IdleDispatcher$State" "servers" "[LIdleDispatcher$Server;", .fieldLink RX3 86 "IdleDispatcher$Server" "length" "I"] ++ wsX30 ++ wsX00 ++ wsX20)
def wsX3_passTick_r1 : List Cond := [Cond.fieldLink RX3 9 "IdleDispatcher$State" "now" "I", Cond.fieldLink RX3 25 "IdleDispatcher$State" "serverCount" "I", Cond.fieldLink RX3 22 "IdleDispatcher$State" "reportPeriod" "I", Cond.methodLink RX3 188 yX3_serve, Cond.instanceMethod yX3_serve, Cond.selects RX3 yX3_serve yX3_serve, Cond.initialized RX3, Cond.code yX3_serve cX3_serve 4 none, Cond.fieldLink RX3 33 "IdleDispatcher$State" "servers" "[LIdleDispatcher$Server;", Cond.fieldLink RX3 176 "IdleDispatcher$Server" "firstJob" "I", Cond.fieldLink RX3 185 "IdleDispatcher$Server" "work" "I", Cond.fieldLink RX3 48 "IdleDispatcher$State" "jobs" "LIdleDispatcher$Jobs;", Cond.fieldLink RX3 194 "IdleDispatcher$Jobs" "left" "[I", Cond.methodLink RX3 197 yX3_finish, Cond.instanceMethod yX3_finish, Cond.selects RX3 yX3_finish yX3_finish, Cond.code yX3_finish cX3_finish 3 none, Cond.fieldLink RX3 201 "IdleDispatcher$Jobs" "finished" "I", Cond.fieldLink RX3 86 "IdleDispatcher$Server" "length" "I", Cond.fieldLink RX3 182 "IdleDispatcher$Jobs" "next" "[I", Cond.fieldLink RX3 173 "IdleDispatcher$Server" "lastJob" "I", Cond.methodLink RX3 179 yX1_begin, Cond.instanceMethod yX1_begin, Cond.selects RX1 yX1_begin yX1_begin]
def wsX3_passTick_r2 : List Cond := [Cond.initialized RX1, Cond.code yX1_begin cX1_begin 3 none, Cond.fieldLink RX1 37 "IdleDispatcher$Jobs" "wait" "[I", Cond.fieldLink RX1 34 "IdleDispatcher$Jobs" "submittedAt" "[I", Cond.fieldLink RX1 21 "IdleDispatcher$Jobs" "waitSum" "I", Cond.fieldLink RX1 18 "IdleDispatcher$Jobs" "begun" "I", Cond.methodLink RX3 166 yX2_isIdle, Cond.instanceMethod yX2_isIdle, Cond.selects RX2 yX2_isIdle yX2_isIdle, Cond.initialized RX2, Cond.code yX2_isIdle cX2_isIdle 1 (some .boolean), Cond.fieldLink RX2 9 "IdleDispatcher$Server" "up" "Z", Cond.fieldLink RX2 15 "IdleDispatcher$Server" "length" "I", Cond.methodLink RX3 72 yX3_register, Cond.instanceMethod yX3_register, Cond.selects RX3 yX3_register yX3_register, Cond.code yX3_register cX3_register 3 none, Cond.fieldLink RX3 28 "IdleDispatcher$State" "dispatcherCount" "I", Cond.fieldLink RX3 40 "IdleDispatcher$State" "dispatchers" "[LIdleDispatcher$Dispatcher;", Cond.fieldLink RX3 104 "IdleDispatcher$Server" "registeredAt" "I", Cond.methodLink RX3 97 yX3_chooseList, Cond.instanceMethod yX3_chooseList, Cond.selects RX3 yX3_chooseList yX3_chooseList, Cond.code yX3_chooseList cX3_chooseList 4 (some .int)]
def wsX3_passTick_r3 : List Cond := [Cond.fieldLink RX3 19 "IdleDispatcher$State" "joinMode" "I", Cond.fieldLink RX3 110 "IdleDispatcher$Dispatcher" "idleCount" "I", Cond.methodLink RX3 107 yX3_draw, Cond.instanceMethod yX3_draw, Cond.selects RX3 yX3_draw yX3_draw, Cond.code yX3_draw cX3_draw 2 (some .int), Cond.fieldLink RX3 15 "IdleDispatcher$State" "random" "J", Cond.constantLong RX3 89 (1103515245), Cond.constantLong RX3 91 (12345), Cond.constantLong RX3 93 (2147483648), Cond.constantLong RX3 95 (65536), Cond.methodLink RX3 101 yX0_appendIdle, Cond.instanceMethod yX0_appendIdle, Cond.selects RX0 yX0_appendIdle yX0_appendIdle, Cond.initialized RX0, Cond.code yX0_appendIdle cX0_appendIdle 2 none, Cond.fieldLink RX0 18 "IdleDispatcher$Dispatcher" "idleCount" "I", Cond.fieldLink RX0 21 "IdleDispatcher$Dispatcher" "idle" "[I", Cond.methodLink RX3 191 yX3_report, Cond.instanceMethod yX3_report, Cond.selects RX3 yX3_report yX3_report, Cond.code yX3_report cX3_report 3 none, Cond.fieldLink RX3 125 "IdleDispatcher$Dispatcher" "known" "[I"]
def wsX3_passTick : List Cond := .code yX3_passTick cX3_passTick 2 none :: ((wsX3_passTick_r1 ++ (wsX3_passTick_r2 ++ wsX3_passTick_r3)) ++ wsX30 ++ wsX20 ++ wsX10 ++ wsX00)
def wsX3_mixAll_r1 : List Cond := [Cond.fieldLink RX3 9 "IdleDispatcher$State" "now" "I", Cond.fieldLink RX3 15 "IdleDispatcher$State" "random" "J", Cond.fieldLink RX3 19 "IdleDispatcher$State" "joinMode" "I", Cond.fieldLink RX3 22 "IdleDispatcher$State" "reportPeriod" "I", Cond.fieldLink RX3 25 "IdleDispatcher$State" "serverCount" "I", Cond.fieldLink RX3 33 "IdleDispatcher$State" "servers" "[LIdleDispatcher$Server;", Cond.fieldLink RX3 28 "IdleDispatcher$State" "dispatcherCount" "I", Cond.fieldLink RX3 40 "IdleDispatcher$State" "dispatchers" "[LIdleDispatcher$Dispatcher;", Cond.fieldLink RX3 48 "IdleDispatcher$State" "jobs" "LIdleDispatcher$Jobs;", Cond.fieldLink RX3 215 "IdleDispatcher$Jobs" "count" "I", Cond.fieldLink RX3 201 "IdleDispatcher$Jobs" "finished" "I", Cond.fieldLink RX3 218 "IdleDispatcher$Jobs" "waitSum" "I", Cond.fieldLink RX3 159 "IdleDispatcher$Jobs" "missed" "I", Cond.static yX4_mix, Cond.initialized RX4, Cond.code yX4_mix cX4_mix 4 (some .long), Cond.constantLong RX4 203 (31), Cond.methodLink RX3 208 yX2_mixAll, Cond.instanceMethod yX2_mixAll, Cond.selects RX2 yX2_mixAll yX2_mixAll, Cond.initialized RX2, Cond.code yX2_mixAll cX2_mixAll 5 (some .long), Cond.fieldLink RX2 9 "IdleDispatcher$Server" "up" "Z", Cond.fieldLink RX2 15 "IdleDispatcher$Server" "length" "I"]
def wsX3_mixAll_r2 : List Cond := [Cond.fieldLink RX2 19 "IdleDispatcher$Server" "work" "I", Cond.fieldLink RX2 22 "IdleDispatcher$Server" "registeredAt" "I", Cond.methodLink RX3 212 yX0_mixAll, Cond.instanceMethod yX0_mixAll, Cond.selects RX0 yX0_mixAll yX0_mixAll, Cond.initialized RX0, Cond.code yX0_mixAll cX0_mixAll 7 (some .long), Cond.fieldLink RX0 9 "IdleDispatcher$Dispatcher" "policy" "I", Cond.fieldLink RX0 15 "IdleDispatcher$Dispatcher" "pointer" "I", Cond.fieldLink RX0 18 "IdleDispatcher$Dispatcher" "idleCount" "I", Cond.fieldLink RX0 21 "IdleDispatcher$Dispatcher" "idle" "[I", Cond.fieldLink RX0 25 "IdleDispatcher$Dispatcher" "known" "[I"]
def wsX3_mixAll : List Cond := .code yX3_mixAll cX3_mixAll 6 (some .long) :: ((wsX3_mixAll_r1 ++ wsX3_mixAll_r2) ++ wsX30 ++ wsX10 ++ wsX20 ++ wsX00)
def wsX4_init_r1 : List Cond := [Cond.methodLink RX4 1 objectInit, Cond.instanceMethod objectInit, Cond.code objectInit ⟨#[0xb1]⟩ 1 none, Cond.classLink RX4 7 RX3, Cond.instantiable RX3 11, Cond.initialized RX3, Cond.fieldLink RX4 10 "IdleDispatcher" "state" "LIdleDispatcher$State;", Cond.fieldLink RX4 16 "IdleDispatcher" "saved" "[LIdleDispatcher$State;", Cond.fieldLink RX4 20 "IdleDispatcher" "savedCount" "I", Cond.methodLink RX4 9 yX3_init, Cond.instanceMethod yX3_init, Cond.code yX3_init cX3_init 2 none, Cond.methodLink RX3 3 objectInit, Cond.fieldLink RX3 9 "IdleDispatcher$State" "now" "I", Cond.fieldLink RX3 15 "IdleDispatcher$State" "random" "J", Cond.fieldLink RX3 19 "IdleDispatcher$State" "joinMode" "I", Cond.fieldLink RX3 22 "IdleDispatcher$State" "reportPeriod" "I", Cond.fieldLink RX3 25 "IdleDispatcher$State" "serverCount" "I", Cond.fieldLink RX3 28 "IdleDispatcher$State" "dispatcherCount" "I", Cond.classLink RX3 31 RX2, Cond.fieldLink RX3 33 "IdleDispatcher$State" "servers" "[LIdleDispatcher$Server;", Cond.instantiable RX2 6, Cond.initialized RX2, Cond.classLink RX3 38 RX0]
def wsX4_init_r2 : List Cond := [Cond.fieldLink RX3 40 "IdleDispatcher$State" "dispatchers" "[LIdleDispatcher$Dispatcher;", Cond.instantiable RX0 5, Cond.initialized RX0, Cond.classLink RX3 45 RX1, Cond.instantiable RX1 10, Cond.initialized RX1, Cond.fieldLink RX3 48 "IdleDispatcher$State" "jobs" "LIdleDispatcher$Jobs;", Cond.fieldLink RX3 52 "IdleDispatcher$State" "candidateCount" "I", Cond.arrayClass .int, Cond.fieldLink RX3 55 "IdleDispatcher$State" "candidates" "[I", Cond.methodLink RX3 37 yX2_init, Cond.instanceMethod yX2_init, Cond.code yX2_init cX2_init 1 none, Cond.methodLink RX2 3 objectInit, Cond.fieldLink RX2 9 "IdleDispatcher$Server" "up" "Z", Cond.fieldLink RX2 15 "IdleDispatcher$Server" "length" "I", Cond.fieldLink RX2 19 "IdleDispatcher$Server" "work" "I", Cond.fieldLink RX2 22 "IdleDispatcher$Server" "registeredAt" "I", Cond.fieldLink RX2 25 "IdleDispatcher$Server" "firstJob" "I", Cond.fieldLink RX2 28 "IdleDispatcher$Server" "lastJob" "I", Cond.methodLink RX3 44 yX0_init, Cond.instanceMethod yX0_init, Cond.code yX0_init cX0_init 1 none, Cond.methodLink RX0 3 objectInit]
def wsX4_init_r3 : List Cond := [Cond.fieldLink RX0 9 "IdleDispatcher$Dispatcher" "policy" "I", Cond.fieldLink RX0 15 "IdleDispatcher$Dispatcher" "pointer" "I", Cond.fieldLink RX0 18 "IdleDispatcher$Dispatcher" "idleCount" "I", Cond.fieldLink RX0 21 "IdleDispatcher$Dispatcher" "idle" "[I", Cond.fieldLink RX0 25 "IdleDispatcher$Dispatcher" "known" "[I", Cond.methodLink RX3 47 yX1_init, Cond.instanceMethod yX1_init, Cond.code yX1_init cX1_init 1 none, Cond.methodLink RX1 3 objectInit, Cond.fieldLink RX1 9 "IdleDispatcher$Jobs" "count" "I", Cond.fieldLink RX1 15 "IdleDispatcher$Jobs" "finished" "I", Cond.fieldLink RX1 18 "IdleDispatcher$Jobs" "begun" "I", Cond.fieldLink RX1 21 "IdleDispatcher$Jobs" "waitSum" "I", Cond.fieldLink RX1 24 "IdleDispatcher$Jobs" "missed" "I", Cond.fieldLink RX1 27 "IdleDispatcher$Jobs" "server" "[I", Cond.fieldLink RX1 31 "IdleDispatcher$Jobs" "left" "[I", Cond.fieldLink RX1 34 "IdleDispatcher$Jobs" "submittedAt" "[I", Cond.fieldLink RX1 37 "IdleDispatcher$Jobs" "wait" "[I", Cond.fieldLink RX1 40 "IdleDispatcher$Jobs" "next" "[I"]
def wsX4_init : List Cond := .code yX4_init cX4_init 2 none :: ((wsX4_init_r1 ++ (wsX4_init_r2 ++ wsX4_init_r3)) ++ wsX30 ++ wsX40 ++ wsX20 ++ wsX00 ++ wsX10)
def wsX4_dropOldest : List Cond := .code yX4_dropOldest cX4_dropOldest 3 none :: ([.fieldLink RX4 16 "IdleDispatcher" "saved" "[LIdleDispatcher$State;", .fieldLink RX4 20 "IdleDispatcher" "savedCount" "I"] ++ wsX40)
def wsX4_save_r1 : List Cond := [Cond.fieldLink RX4 20 "IdleDispatcher" "savedCount" "I", Cond.fieldLink RX4 16 "IdleDispatcher" "saved" "[LIdleDispatcher$State;", Cond.fieldLink RX4 10 "IdleDispatcher" "state" "LIdleDispatcher$State;", Cond.methodLink RX4 177 yX4_dropOldest, Cond.instanceMethod yX4_dropOldest, Cond.selects RX4 yX4_dropOldest yX4_dropOldest, Cond.initialized RX4, Cond.code yX4_dropOldest cX4_dropOldest 3 none, Cond.methodLink RX4 180 yX3_copyFrom, Cond.instanceMethod yX3_copyFrom, Cond.selects RX3 yX3_copyFrom yX3_copyFrom, Cond.initialized RX3, Cond.code yX3_copyFrom cX3_copyFrom 3 none, Cond.fieldLink RX3 9 "IdleDispatcher$State" "now" "I", Cond.fieldLink RX3 15 "IdleDispatcher$State" "random" "J", Cond.fieldLink RX3 19 "IdleDispatcher$State" "joinMode" "I", Cond.fieldLink RX3 22 "IdleDispatcher$State" "reportPeriod" "I", Cond.fieldLink RX3 25 "IdleDispatcher$State" "serverCount" "I", Cond.fieldLink RX3 28 "IdleDispatcher$State" "dispatcherCount" "I", Cond.fieldLink RX3 33 "IdleDispatcher$State" "servers" "[LIdleDispatcher$Server;", Cond.fieldLink RX3 40 "IdleDispatcher$State" "dispatchers" "[LIdleDispatcher$Dispatcher;", Cond.fieldLink RX3 48 "IdleDispatcher$State" "jobs" "LIdleDispatcher$Jobs;", Cond.methodLink RX3 59 yX2_copyFrom, Cond.instanceMethod yX2_copyFrom]
def wsX4_save_r2 : List Cond := [Cond.selects RX2 yX2_copyFrom yX2_copyFrom, Cond.initialized RX2, Cond.code yX2_copyFrom cX2_copyFrom 2 none, Cond.fieldLink RX2 9 "IdleDispatcher$Server" "up" "Z", Cond.fieldLink RX2 15 "IdleDispatcher$Server" "length" "I", Cond.fieldLink RX2 19 "IdleDispatcher$Server" "work" "I", Cond.fieldLink RX2 22 "IdleDispatcher$Server" "registeredAt" "I", Cond.fieldLink RX2 25 "IdleDispatcher$Server" "firstJob" "I", Cond.fieldLink RX2 28 "IdleDispatcher$Server" "lastJob" "I", Cond.methodLink RX3 63 yX0_copyFrom, Cond.instanceMethod yX0_copyFrom, Cond.selects RX0 yX0_copyFrom yX0_copyFrom, Cond.initialized RX0, Cond.code yX0_copyFrom cX0_copyFrom 2 none, Cond.fieldLink RX0 9 "IdleDispatcher$Dispatcher" "policy" "I", Cond.fieldLink RX0 15 "IdleDispatcher$Dispatcher" "pointer" "I", Cond.fieldLink RX0 18 "IdleDispatcher$Dispatcher" "idleCount" "I", Cond.fieldLink RX0 21 "IdleDispatcher$Dispatcher" "idle" "[I", Cond.methodLink RX0 28 arraycopyName, Cond.native arraycopyName, Cond.static arraycopyName, Cond.initialized "java/lang/System", Cond.fieldLink RX0 25 "IdleDispatcher$Dispatcher" "known" "[I", Cond.methodLink RX3 66 yX1_copyFrom]
def wsX4_save_r3 : List Cond := [Cond.instanceMethod yX1_copyFrom, Cond.selects RX1 yX1_copyFrom yX1_copyFrom, Cond.initialized RX1, Cond.code yX1_copyFrom cX1_copyFrom 2 none, Cond.fieldLink RX1 9 "IdleDispatcher$Jobs" "count" "I", Cond.fieldLink RX1 15 "IdleDispatcher$Jobs" "finished" "I", Cond.fieldLink RX1 18 "IdleDispatcher$Jobs" "begun" "I", Cond.fieldLink RX1 21 "IdleDispatcher$Jobs" "waitSum" "I", Cond.fieldLink RX1 24 "IdleDispatcher$Jobs" "missed" "I", Cond.fieldLink RX1 27 "IdleDispatcher$Jobs" "server" "[I", Cond.methodLink RX1 43 arraycopyName, Cond.fieldLink RX1 31 "IdleDispatcher$Jobs" "left" "[I", Cond.fieldLink RX1 34 "IdleDispatcher$Jobs" "submittedAt" "[I", Cond.fieldLink RX1 37 "IdleDispatcher$Jobs" "wait" "[I", Cond.fieldLink RX1 40 "IdleDispatcher$Jobs" "next" "[I", Cond.methodLink RX3 69 yX3_collectCandidates, Cond.instanceMethod yX3_collectCandidates, Cond.selects RX3 yX3_collectCandidates yX3_collectCandidates, Cond.code yX3_collectCandidates cX3_collectCandidates 2 none, Cond.fieldLink RX3 52 "IdleDispatcher$State" "candidateCount" "I", Cond.fieldLink RX3 79 "IdleDispatcher$Server" "up" "Z", Cond.fieldLink RX3 55 "IdleDispatcher$State" "candidates" "[I"]
def wsX4_save : List Cond := .code yX4_save cX4_save 1 none :: ((wsX4_save_r1 ++ (wsX4_save_r2 ++ wsX4_save_r3)) ++ wsX40 ++ wsX30 ++ wsX20 ++ wsX00 ++ wsX10)
def wsX4_addServer_r1 : List Cond := [Cond.classLink RX4 27 "java/lang/IllegalStateException", Cond.initialized "java/lang/IllegalStateException", Cond.fieldLink RX4 10 "IdleDispatcher" "state" "LIdleDispatcher$State;", Cond.fieldLink RX4 24 "IdleDispatcher$State" "serverCount" "I", Cond.methodLink RX4 34 yX4_save, Cond.instanceMethod yX4_save, Cond.selects RX4 yX4_save yX4_save, Cond.initialized RX4, Cond.code yX4_save cX4_save 1 none, Cond.fieldLink RX4 20 "IdleDispatcher" "savedCount" "I", Cond.fieldLink RX4 16 "IdleDispatcher" "saved" "[LIdleDispatcher$State;", Cond.methodLink RX4 177 yX4_dropOldest, Cond.instanceMethod yX4_dropOldest, Cond.selects RX4 yX4_dropOldest yX4_dropOldest, Cond.code yX4_dropOldest cX4_dropOldest 3 none, Cond.methodLink RX4 180 yX3_copyFrom, Cond.instanceMethod yX3_copyFrom, Cond.selects RX3 yX3_copyFrom yX3_copyFrom, Cond.initialized RX3, Cond.code yX3_copyFrom cX3_copyFrom 3 none, Cond.fieldLink RX3 9 "IdleDispatcher$State" "now" "I", Cond.fieldLink RX3 15 "IdleDispatcher$State" "random" "J", Cond.fieldLink RX3 19 "IdleDispatcher$State" "joinMode" "I", Cond.fieldLink RX3 22 "IdleDispatcher$State" "reportPeriod" "I"]
def wsX4_addServer_r2 : List Cond := [Cond.fieldLink RX3 25 "IdleDispatcher$State" "serverCount" "I", Cond.fieldLink RX3 28 "IdleDispatcher$State" "dispatcherCount" "I", Cond.fieldLink RX3 33 "IdleDispatcher$State" "servers" "[LIdleDispatcher$Server;", Cond.fieldLink RX3 40 "IdleDispatcher$State" "dispatchers" "[LIdleDispatcher$Dispatcher;", Cond.fieldLink RX3 48 "IdleDispatcher$State" "jobs" "LIdleDispatcher$Jobs;", Cond.methodLink RX3 59 yX2_copyFrom, Cond.instanceMethod yX2_copyFrom, Cond.selects RX2 yX2_copyFrom yX2_copyFrom, Cond.initialized RX2, Cond.code yX2_copyFrom cX2_copyFrom 2 none, Cond.fieldLink RX2 9 "IdleDispatcher$Server" "up" "Z", Cond.fieldLink RX2 15 "IdleDispatcher$Server" "length" "I", Cond.fieldLink RX2 19 "IdleDispatcher$Server" "work" "I", Cond.fieldLink RX2 22 "IdleDispatcher$Server" "registeredAt" "I", Cond.fieldLink RX2 25 "IdleDispatcher$Server" "firstJob" "I", Cond.fieldLink RX2 28 "IdleDispatcher$Server" "lastJob" "I", Cond.methodLink RX3 63 yX0_copyFrom, Cond.instanceMethod yX0_copyFrom, Cond.selects RX0 yX0_copyFrom yX0_copyFrom, Cond.initialized RX0, Cond.code yX0_copyFrom cX0_copyFrom 2 none, Cond.fieldLink RX0 9 "IdleDispatcher$Dispatcher" "policy" "I", Cond.fieldLink RX0 15 "IdleDispatcher$Dispatcher" "pointer" "I", Cond.fieldLink RX0 18 "IdleDispatcher$Dispatcher" "idleCount" "I"]
def wsX4_addServer_r3 : List Cond := [Cond.fieldLink RX0 21 "IdleDispatcher$Dispatcher" "idle" "[I", Cond.methodLink RX0 28 arraycopyName, Cond.native arraycopyName, Cond.static arraycopyName, Cond.initialized "java/lang/System", Cond.fieldLink RX0 25 "IdleDispatcher$Dispatcher" "known" "[I", Cond.methodLink RX3 66 yX1_copyFrom, Cond.instanceMethod yX1_copyFrom, Cond.selects RX1 yX1_copyFrom yX1_copyFrom, Cond.initialized RX1, Cond.code yX1_copyFrom cX1_copyFrom 2 none, Cond.fieldLink RX1 9 "IdleDispatcher$Jobs" "count" "I", Cond.fieldLink RX1 15 "IdleDispatcher$Jobs" "finished" "I", Cond.fieldLink RX1 18 "IdleDispatcher$Jobs" "begun" "I", Cond.fieldLink RX1 21 "IdleDispatcher$Jobs" "waitSum" "I", Cond.fieldLink RX1 24 "IdleDispatcher$Jobs" "missed" "I", Cond.fieldLink RX1 27 "IdleDispatcher$Jobs" "server" "[I", Cond.methodLink RX1 43 arraycopyName, Cond.fieldLink RX1 31 "IdleDispatcher$Jobs" "left" "[I", Cond.fieldLink RX1 34 "IdleDispatcher$Jobs" "submittedAt" "[I", Cond.fieldLink RX1 37 "IdleDispatcher$Jobs" "wait" "[I", Cond.fieldLink RX1 40 "IdleDispatcher$Jobs" "next" "[I", Cond.methodLink RX3 69 yX3_collectCandidates, Cond.instanceMethod yX3_collectCandidates]
def wsX4_addServer_r4 : List Cond := [Cond.selects RX3 yX3_collectCandidates yX3_collectCandidates, Cond.code yX3_collectCandidates cX3_collectCandidates 2 none, Cond.fieldLink RX3 52 "IdleDispatcher$State" "candidateCount" "I", Cond.fieldLink RX3 79 "IdleDispatcher$Server" "up" "Z", Cond.fieldLink RX3 55 "IdleDispatcher$State" "candidates" "[I", Cond.methodLink RX4 37 yX3_openServer, Cond.instanceMethod yX3_openServer, Cond.selects RX3 yX3_openServer yX3_openServer, Cond.code yX3_openServer cX3_openServer 2 (some .int), Cond.methodLink RX3 72 yX3_register, Cond.instanceMethod yX3_register, Cond.selects RX3 yX3_register yX3_register, Cond.code yX3_register cX3_register 3 none, Cond.fieldLink RX3 104 "IdleDispatcher$Server" "registeredAt" "I", Cond.methodLink RX3 97 yX3_chooseList, Cond.instanceMethod yX3_chooseList, Cond.selects RX3 yX3_chooseList yX3_chooseList, Cond.code yX3_chooseList cX3_chooseList 4 (some .int), Cond.fieldLink RX3 110 "IdleDispatcher$Dispatcher" "idleCount" "I", Cond.methodLink RX3 107 yX3_draw, Cond.instanceMethod yX3_draw, Cond.selects RX3 yX3_draw yX3_draw, Cond.code yX3_draw cX3_draw 2 (some .int), Cond.constantLong RX3 89 (1103515245)]
def wsX4_addServer_r5 : List Cond := [Cond.constantLong RX3 91 (12345), Cond.constantLong RX3 93 (2147483648), Cond.constantLong RX3 95 (65536), Cond.methodLink RX3 101 yX0_appendIdle, Cond.instanceMethod yX0_appendIdle, Cond.selects RX0 yX0_appendIdle yX0_appendIdle, Cond.code yX0_appendIdle cX0_appendIdle 2 none]
def wsX4_addServer : List Cond := .code yX4_addServer cX4_addServer 1 (some .int) :: ((wsX4_addServer_r1 ++ (wsX4_addServer_r2 ++ (wsX4_addServer_r3 ++ (wsX4_addServer_r4 ++ wsX4_addServer_r5)))) ++ wsX40 ++ wsX30 ++ wsX20 ++ wsX00 ++ wsX10 ++ (vx_atS RX4 31 "java/lang/IllegalStateException" ["java/lang/RuntimeException", "java/lang/Exception"]).filter goodWord)
def wsX4_requireRange : List Cond := .code yX4_requireRange cX4_requireRange 3 none :: ([.classLink RX4 184 "java/lang/IllegalArgumentException", .initialized "java/lang/IllegalArgumentException"] ++ (vx_atS RX4 188 "java/lang/IllegalArgumentException" ["java/lang/RuntimeException", "java/lang/Exception"]).filter goodWord)
def wsX4_addDispatcher_r1 : List Cond := [Cond.classLink RX4 27 "java/lang/IllegalStateException", Cond.initialized "java/lang/IllegalStateException", Cond.fieldLink RX4 10 "IdleDispatcher" "state" "LIdleDispatcher$State;", Cond.fieldLink RX4 45 "IdleDispatcher$State" "dispatcherCount" "I", Cond.methodLink RX4 41 yX4_requireRange, Cond.static yX4_requireRange, Cond.initialized RX4, Cond.code yX4_requireRange cX4_requireRange 3 none, Cond.classLink RX4 184 "java/lang/IllegalArgumentException", Cond.initialized "java/lang/IllegalArgumentException", Cond.methodLink RX4 34 yX4_save, Cond.instanceMethod yX4_save, Cond.selects RX4 yX4_save yX4_save, Cond.code yX4_save cX4_save 1 none, Cond.fieldLink RX4 20 "IdleDispatcher" "savedCount" "I", Cond.fieldLink RX4 16 "IdleDispatcher" "saved" "[LIdleDispatcher$State;", Cond.methodLink RX4 177 yX4_dropOldest, Cond.instanceMethod yX4_dropOldest, Cond.selects RX4 yX4_dropOldest yX4_dropOldest, Cond.code yX4_dropOldest cX4_dropOldest 3 none, Cond.methodLink RX4 180 yX3_copyFrom, Cond.instanceMethod yX3_copyFrom, Cond.selects RX3 yX3_copyFrom yX3_copyFrom, Cond.initialized RX3]
def wsX4_addDispatcher_r2 : List Cond := [Cond.code yX3_copyFrom cX3_copyFrom 3 none, Cond.fieldLink RX3 9 "IdleDispatcher$State" "now" "I", Cond.fieldLink RX3 15 "IdleDispatcher$State" "random" "J", Cond.fieldLink RX3 19 "IdleDispatcher$State" "joinMode" "I", Cond.fieldLink RX3 22 "IdleDispatcher$State" "reportPeriod" "I", Cond.fieldLink RX3 25 "IdleDispatcher$State" "serverCount" "I", Cond.fieldLink RX3 28 "IdleDispatcher$State" "dispatcherCount" "I", Cond.fieldLink RX3 33 "IdleDispatcher$State" "servers" "[LIdleDispatcher$Server;", Cond.fieldLink RX3 40 "IdleDispatcher$State" "dispatchers" "[LIdleDispatcher$Dispatcher;", Cond.fieldLink RX3 48 "IdleDispatcher$State" "jobs" "LIdleDispatcher$Jobs;", Cond.methodLink RX3 59 yX2_copyFrom, Cond.instanceMethod yX2_copyFrom, Cond.selects RX2 yX2_copyFrom yX2_copyFrom, Cond.initialized RX2, Cond.code yX2_copyFrom cX2_copyFrom 2 none, Cond.fieldLink RX2 9 "IdleDispatcher$Server" "up" "Z", Cond.fieldLink RX2 15 "IdleDispatcher$Server" "length" "I", Cond.fieldLink RX2 19 "IdleDispatcher$Server" "work" "I", Cond.fieldLink RX2 22 "IdleDispatcher$Server" "registeredAt" "I", Cond.fieldLink RX2 25 "IdleDispatcher$Server" "firstJob" "I", Cond.fieldLink RX2 28 "IdleDispatcher$Server" "lastJob" "I", Cond.methodLink RX3 63 yX0_copyFrom, Cond.instanceMethod yX0_copyFrom, Cond.selects RX0 yX0_copyFrom yX0_copyFrom]
def wsX4_addDispatcher_r3 : List Cond := [Cond.initialized RX0, Cond.code yX0_copyFrom cX0_copyFrom 2 none, Cond.fieldLink RX0 9 "IdleDispatcher$Dispatcher" "policy" "I", Cond.fieldLink RX0 15 "IdleDispatcher$Dispatcher" "pointer" "I", Cond.fieldLink RX0 18 "IdleDispatcher$Dispatcher" "idleCount" "I", Cond.fieldLink RX0 21 "IdleDispatcher$Dispatcher" "idle" "[I", Cond.methodLink RX0 28 arraycopyName, Cond.native arraycopyName, Cond.static arraycopyName, Cond.initialized "java/lang/System", Cond.fieldLink RX0 25 "IdleDispatcher$Dispatcher" "known" "[I", Cond.methodLink RX3 66 yX1_copyFrom, Cond.instanceMethod yX1_copyFrom, Cond.selects RX1 yX1_copyFrom yX1_copyFrom, Cond.initialized RX1, Cond.code yX1_copyFrom cX1_copyFrom 2 none, Cond.fieldLink RX1 9 "IdleDispatcher$Jobs" "count" "I", Cond.fieldLink RX1 15 "IdleDispatcher$Jobs" "finished" "I", Cond.fieldLink RX1 18 "IdleDispatcher$Jobs" "begun" "I", Cond.fieldLink RX1 21 "IdleDispatcher$Jobs" "waitSum" "I", Cond.fieldLink RX1 24 "IdleDispatcher$Jobs" "missed" "I", Cond.fieldLink RX1 27 "IdleDispatcher$Jobs" "server" "[I", Cond.methodLink RX1 43 arraycopyName, Cond.fieldLink RX1 31 "IdleDispatcher$Jobs" "left" "[I"]
def wsX4_addDispatcher_r4 : List Cond := [Cond.fieldLink RX1 34 "IdleDispatcher$Jobs" "submittedAt" "[I", Cond.fieldLink RX1 37 "IdleDispatcher$Jobs" "wait" "[I", Cond.fieldLink RX1 40 "IdleDispatcher$Jobs" "next" "[I", Cond.methodLink RX3 69 yX3_collectCandidates, Cond.instanceMethod yX3_collectCandidates, Cond.selects RX3 yX3_collectCandidates yX3_collectCandidates, Cond.code yX3_collectCandidates cX3_collectCandidates 2 none, Cond.fieldLink RX3 52 "IdleDispatcher$State" "candidateCount" "I", Cond.fieldLink RX3 79 "IdleDispatcher$Server" "up" "Z", Cond.fieldLink RX3 55 "IdleDispatcher$State" "candidates" "[I", Cond.methodLink RX4 50 yX3_openDispatcher, Cond.instanceMethod yX3_openDispatcher, Cond.selects RX3 yX3_openDispatcher yX3_openDispatcher, Cond.code yX3_openDispatcher cX3_openDispatcher 3 (some .int), Cond.fieldLink RX3 76 "IdleDispatcher$Dispatcher" "policy" "I"]
def wsX4_addDispatcher : List Cond := .code yX4_addDispatcher cX4_addDispatcher 2 (some .int) :: ((wsX4_addDispatcher_r1 ++ (wsX4_addDispatcher_r2 ++ (wsX4_addDispatcher_r3 ++ wsX4_addDispatcher_r4))) ++ wsX40 ++ wsX30 ++ wsX20 ++ wsX00 ++ wsX10 ++ (vx_atS RX4 31 "java/lang/IllegalStateException" ["java/lang/RuntimeException", "java/lang/Exception"]).filter goodWord ++ (vx_atS RX4 188 "java/lang/IllegalArgumentException" ["java/lang/RuntimeException", "java/lang/Exception"]).filter goodWord)
def wsX4_requireDispatcher : List Cond := .code yX4_requireDispatcher cX4_requireDispatcher 2 none :: ([.classLink RX4 184 "java/lang/IllegalArgumentException", .initialized "java/lang/IllegalArgumentException", .fieldLink RX4 10 "IdleDispatcher" "state" "LIdleDispatcher$State;", .fieldLink RX4 45 "IdleDispatcher$State" "dispatcherCount" "I"] ++ wsX40 ++ wsX30 ++ (vx_atS RX4 188 "java/lang/IllegalArgumentException" ["java/lang/RuntimeException", "java/lang/Exception"]).filter goodWord)
def wsX4_setPolicy_r1 : List Cond := [Cond.fieldLink RX4 10 "IdleDispatcher" "state" "LIdleDispatcher$State;", Cond.fieldLink RX4 58 "IdleDispatcher$State" "dispatchers" "[LIdleDispatcher$Dispatcher;", Cond.fieldLink RX4 62 "IdleDispatcher$Dispatcher" "policy" "I", Cond.methodLink RX4 54 yX4_requireDispatcher, Cond.instanceMethod yX4_requireDispatcher, Cond.selects RX4 yX4_requireDispatcher yX4_requireDispatcher, Cond.initialized RX4, Cond.code yX4_requireDispatcher cX4_requireDispatcher 2 none, Cond.classLink RX4 184 "java/lang/IllegalArgumentException", Cond.initialized "java/lang/IllegalArgumentException", Cond.fieldLink RX4 45 "IdleDispatcher$State" "dispatcherCount" "I", Cond.methodLink RX4 41 yX4_requireRange, Cond.static yX4_requireRange, Cond.code yX4_requireRange cX4_requireRange 3 none, Cond.methodLink RX4 34 yX4_save, Cond.instanceMethod yX4_save, Cond.selects RX4 yX4_save yX4_save, Cond.code yX4_save cX4_save 1 none, Cond.fieldLink RX4 20 "IdleDispatcher" "savedCount" "I", Cond.fieldLink RX4 16 "IdleDispatcher" "saved" "[LIdleDispatcher$State;", Cond.methodLink RX4 177 yX4_dropOldest, Cond.instanceMethod yX4_dropOldest, Cond.selects RX4 yX4_dropOldest yX4_dropOldest, Cond.code yX4_dropOldest cX4_dropOldest 3 none]
def wsX4_setPolicy_r2 : List Cond := [Cond.methodLink RX4 180 yX3_copyFrom, Cond.instanceMethod yX3_copyFrom, Cond.selects RX3 yX3_copyFrom yX3_copyFrom, Cond.initialized RX3, Cond.code yX3_copyFrom cX3_copyFrom 3 none, Cond.fieldLink RX3 9 "IdleDispatcher$State" "now" "I", Cond.fieldLink RX3 15 "IdleDispatcher$State" "random" "J", Cond.fieldLink RX3 19 "IdleDispatcher$State" "joinMode" "I", Cond.fieldLink RX3 22 "IdleDispatcher$State" "reportPeriod" "I", Cond.fieldLink RX3 25 "IdleDispatcher$State" "serverCount" "I", Cond.fieldLink RX3 28 "IdleDispatcher$State" "dispatcherCount" "I", Cond.fieldLink RX3 33 "IdleDispatcher$State" "servers" "[LIdleDispatcher$Server;", Cond.fieldLink RX3 40 "IdleDispatcher$State" "dispatchers" "[LIdleDispatcher$Dispatcher;", Cond.fieldLink RX3 48 "IdleDispatcher$State" "jobs" "LIdleDispatcher$Jobs;", Cond.methodLink RX3 59 yX2_copyFrom, Cond.instanceMethod yX2_copyFrom, Cond.selects RX2 yX2_copyFrom yX2_copyFrom, Cond.initialized RX2, Cond.code yX2_copyFrom cX2_copyFrom 2 none, Cond.fieldLink RX2 9 "IdleDispatcher$Server" "up" "Z", Cond.fieldLink RX2 15 "IdleDispatcher$Server" "length" "I", Cond.fieldLink RX2 19 "IdleDispatcher$Server" "work" "I", Cond.fieldLink RX2 22 "IdleDispatcher$Server" "registeredAt" "I", Cond.fieldLink RX2 25 "IdleDispatcher$Server" "firstJob" "I"]
def wsX4_setPolicy_r3 : List Cond := [Cond.fieldLink RX2 28 "IdleDispatcher$Server" "lastJob" "I", Cond.methodLink RX3 63 yX0_copyFrom, Cond.instanceMethod yX0_copyFrom, Cond.selects RX0 yX0_copyFrom yX0_copyFrom, Cond.initialized RX0, Cond.code yX0_copyFrom cX0_copyFrom 2 none, Cond.fieldLink RX0 9 "IdleDispatcher$Dispatcher" "policy" "I", Cond.fieldLink RX0 15 "IdleDispatcher$Dispatcher" "pointer" "I", Cond.fieldLink RX0 18 "IdleDispatcher$Dispatcher" "idleCount" "I", Cond.fieldLink RX0 21 "IdleDispatcher$Dispatcher" "idle" "[I", Cond.methodLink RX0 28 arraycopyName, Cond.native arraycopyName, Cond.static arraycopyName, Cond.initialized "java/lang/System", Cond.fieldLink RX0 25 "IdleDispatcher$Dispatcher" "known" "[I", Cond.methodLink RX3 66 yX1_copyFrom, Cond.instanceMethod yX1_copyFrom, Cond.selects RX1 yX1_copyFrom yX1_copyFrom, Cond.initialized RX1, Cond.code yX1_copyFrom cX1_copyFrom 2 none, Cond.fieldLink RX1 9 "IdleDispatcher$Jobs" "count" "I", Cond.fieldLink RX1 15 "IdleDispatcher$Jobs" "finished" "I", Cond.fieldLink RX1 18 "IdleDispatcher$Jobs" "begun" "I", Cond.fieldLink RX1 21 "IdleDispatcher$Jobs" "waitSum" "I"]
def wsX4_setPolicy_r4 : List Cond := [Cond.fieldLink RX1 24 "IdleDispatcher$Jobs" "missed" "I", Cond.fieldLink RX1 27 "IdleDispatcher$Jobs" "server" "[I", Cond.methodLink RX1 43 arraycopyName, Cond.fieldLink RX1 31 "IdleDispatcher$Jobs" "left" "[I", Cond.fieldLink RX1 34 "IdleDispatcher$Jobs" "submittedAt" "[I", Cond.fieldLink RX1 37 "IdleDispatcher$Jobs" "wait" "[I", Cond.fieldLink RX1 40 "IdleDispatcher$Jobs" "next" "[I", Cond.methodLink RX3 69 yX3_collectCandidates, Cond.instanceMethod yX3_collectCandidates, Cond.selects RX3 yX3_collectCandidates yX3_collectCandidates, Cond.code yX3_collectCandidates cX3_collectCandidates 2 none, Cond.fieldLink RX3 52 "IdleDispatcher$State" "candidateCount" "I", Cond.fieldLink RX3 79 "IdleDispatcher$Server" "up" "Z", Cond.fieldLink RX3 55 "IdleDispatcher$State" "candidates" "[I"]
def wsX4_setPolicy : List Cond := .code yX4_setPolicy cX4_setPolicy 4 (some .int) :: ((wsX4_setPolicy_r1 ++ (wsX4_setPolicy_r2 ++ (wsX4_setPolicy_r3 ++ wsX4_setPolicy_r4))) ++ wsX40 ++ wsX30 ++ wsX00 ++ wsX20 ++ wsX10 ++ (vx_atS RX4 188 "java/lang/IllegalArgumentException" ["java/lang/RuntimeException", "java/lang/Exception"]).filter goodWord)
def wsX4_setJoinMode_r1 : List Cond := [Cond.fieldLink RX4 10 "IdleDispatcher" "state" "LIdleDispatcher$State;", Cond.fieldLink RX4 67 "IdleDispatcher$State" "joinMode" "I", Cond.methodLink RX4 41 yX4_requireRange, Cond.static yX4_requireRange, Cond.initialized RX4, Cond.code yX4_requireRange cX4_requireRange 3 none, Cond.classLink RX4 184 "java/lang/IllegalArgumentException", Cond.initialized "java/lang/IllegalArgumentException", Cond.methodLink RX4 34 yX4_save, Cond.instanceMethod yX4_save, Cond.selects RX4 yX4_save yX4_save, Cond.code yX4_save cX4_save 1 none, Cond.fieldLink RX4 20 "IdleDispatcher" "savedCount" "I", Cond.fieldLink RX4 16 "IdleDispatcher" "saved" "[LIdleDispatcher$State;", Cond.methodLink RX4 177 yX4_dropOldest, Cond.instanceMethod yX4_dropOldest, Cond.selects RX4 yX4_dropOldest yX4_dropOldest, Cond.code yX4_dropOldest cX4_dropOldest 3 none, Cond.methodLink RX4 180 yX3_copyFrom, Cond.instanceMethod yX3_copyFrom, Cond.selects RX3 yX3_copyFrom yX3_copyFrom, Cond.initialized RX3, Cond.code yX3_copyFrom cX3_copyFrom 3 none, Cond.fieldLink RX3 9 "IdleDispatcher$State" "now" "I"]
def wsX4_setJoinMode_r2 : List Cond := [Cond.fieldLink RX3 15 "IdleDispatcher$State" "random" "J", Cond.fieldLink RX3 19 "IdleDispatcher$State" "joinMode" "I", Cond.fieldLink RX3 22 "IdleDispatcher$State" "reportPeriod" "I", Cond.fieldLink RX3 25 "IdleDispatcher$State" "serverCount" "I", Cond.fieldLink RX3 28 "IdleDispatcher$State" "dispatcherCount" "I", Cond.fieldLink RX3 33 "IdleDispatcher$State" "servers" "[LIdleDispatcher$Server;", Cond.fieldLink RX3 40 "IdleDispatcher$State" "dispatchers" "[LIdleDispatcher$Dispatcher;", Cond.fieldLink RX3 48 "IdleDispatcher$State" "jobs" "LIdleDispatcher$Jobs;", Cond.methodLink RX3 59 yX2_copyFrom, Cond.instanceMethod yX2_copyFrom, Cond.selects RX2 yX2_copyFrom yX2_copyFrom, Cond.initialized RX2, Cond.code yX2_copyFrom cX2_copyFrom 2 none, Cond.fieldLink RX2 9 "IdleDispatcher$Server" "up" "Z", Cond.fieldLink RX2 15 "IdleDispatcher$Server" "length" "I", Cond.fieldLink RX2 19 "IdleDispatcher$Server" "work" "I", Cond.fieldLink RX2 22 "IdleDispatcher$Server" "registeredAt" "I", Cond.fieldLink RX2 25 "IdleDispatcher$Server" "firstJob" "I", Cond.fieldLink RX2 28 "IdleDispatcher$Server" "lastJob" "I", Cond.methodLink RX3 63 yX0_copyFrom, Cond.instanceMethod yX0_copyFrom, Cond.selects RX0 yX0_copyFrom yX0_copyFrom, Cond.initialized RX0, Cond.code yX0_copyFrom cX0_copyFrom 2 none]
def wsX4_setJoinMode_r3 : List Cond := [Cond.fieldLink RX0 9 "IdleDispatcher$Dispatcher" "policy" "I", Cond.fieldLink RX0 15 "IdleDispatcher$Dispatcher" "pointer" "I", Cond.fieldLink RX0 18 "IdleDispatcher$Dispatcher" "idleCount" "I", Cond.fieldLink RX0 21 "IdleDispatcher$Dispatcher" "idle" "[I", Cond.methodLink RX0 28 arraycopyName, Cond.native arraycopyName, Cond.static arraycopyName, Cond.initialized "java/lang/System", Cond.fieldLink RX0 25 "IdleDispatcher$Dispatcher" "known" "[I", Cond.methodLink RX3 66 yX1_copyFrom, Cond.instanceMethod yX1_copyFrom, Cond.selects RX1 yX1_copyFrom yX1_copyFrom, Cond.initialized RX1, Cond.code yX1_copyFrom cX1_copyFrom 2 none, Cond.fieldLink RX1 9 "IdleDispatcher$Jobs" "count" "I", Cond.fieldLink RX1 15 "IdleDispatcher$Jobs" "finished" "I", Cond.fieldLink RX1 18 "IdleDispatcher$Jobs" "begun" "I", Cond.fieldLink RX1 21 "IdleDispatcher$Jobs" "waitSum" "I", Cond.fieldLink RX1 24 "IdleDispatcher$Jobs" "missed" "I", Cond.fieldLink RX1 27 "IdleDispatcher$Jobs" "server" "[I", Cond.methodLink RX1 43 arraycopyName, Cond.fieldLink RX1 31 "IdleDispatcher$Jobs" "left" "[I", Cond.fieldLink RX1 34 "IdleDispatcher$Jobs" "submittedAt" "[I", Cond.fieldLink RX1 37 "IdleDispatcher$Jobs" "wait" "[I"]
def wsX4_setJoinMode_r4 : List Cond := [Cond.fieldLink RX1 40 "IdleDispatcher$Jobs" "next" "[I", Cond.methodLink RX3 69 yX3_collectCandidates, Cond.instanceMethod yX3_collectCandidates, Cond.selects RX3 yX3_collectCandidates yX3_collectCandidates, Cond.code yX3_collectCandidates cX3_collectCandidates 2 none, Cond.fieldLink RX3 52 "IdleDispatcher$State" "candidateCount" "I", Cond.fieldLink RX3 79 "IdleDispatcher$Server" "up" "Z", Cond.fieldLink RX3 55 "IdleDispatcher$State" "candidates" "[I"]
def wsX4_setJoinMode : List Cond := .code yX4_setJoinMode cX4_setJoinMode 3 (some .int) :: ((wsX4_setJoinMode_r1 ++ (wsX4_setJoinMode_r2 ++ (wsX4_setJoinMode_r3 ++ wsX4_setJoinMode_r4))) ++ wsX40 ++ wsX30 ++ wsX20 ++ wsX00 ++ wsX10 ++ (vx_atS RX4 188 "java/lang/IllegalArgumentException" ["java/lang/RuntimeException", "java/lang/Exception"]).filter goodWord)
def wsX4_setReportPeriod_r1 : List Cond := [Cond.fieldLink RX4 10 "IdleDispatcher" "state" "LIdleDispatcher$State;", Cond.fieldLink RX4 70 "IdleDispatcher$State" "reportPeriod" "I", Cond.methodLink RX4 41 yX4_requireRange, Cond.static yX4_requireRange, Cond.initialized RX4, Cond.code yX4_requireRange cX4_requireRange 3 none, Cond.classLink RX4 184 "java/lang/IllegalArgumentException", Cond.initialized "java/lang/IllegalArgumentException", Cond.methodLink RX4 34 yX4_save, Cond.instanceMethod yX4_save, Cond.selects RX4 yX4_save yX4_save, Cond.code yX4_save cX4_save 1 none, Cond.fieldLink RX4 20 "IdleDispatcher" "savedCount" "I", Cond.fieldLink RX4 16 "IdleDispatcher" "saved" "[LIdleDispatcher$State;", Cond.methodLink RX4 177 yX4_dropOldest, Cond.instanceMethod yX4_dropOldest, Cond.selects RX4 yX4_dropOldest yX4_dropOldest, Cond.code yX4_dropOldest cX4_dropOldest 3 none, Cond.methodLink RX4 180 yX3_copyFrom, Cond.instanceMethod yX3_copyFrom, Cond.selects RX3 yX3_copyFrom yX3_copyFrom, Cond.initialized RX3, Cond.code yX3_copyFrom cX3_copyFrom 3 none, Cond.fieldLink RX3 9 "IdleDispatcher$State" "now" "I"]
def wsX4_setReportPeriod_r2 : List Cond := [Cond.fieldLink RX3 15 "IdleDispatcher$State" "random" "J", Cond.fieldLink RX3 19 "IdleDispatcher$State" "joinMode" "I", Cond.fieldLink RX3 22 "IdleDispatcher$State" "reportPeriod" "I", Cond.fieldLink RX3 25 "IdleDispatcher$State" "serverCount" "I", Cond.fieldLink RX3 28 "IdleDispatcher$State" "dispatcherCount" "I", Cond.fieldLink RX3 33 "IdleDispatcher$State" "servers" "[LIdleDispatcher$Server;", Cond.fieldLink RX3 40 "IdleDispatcher$State" "dispatchers" "[LIdleDispatcher$Dispatcher;", Cond.fieldLink RX3 48 "IdleDispatcher$State" "jobs" "LIdleDispatcher$Jobs;", Cond.methodLink RX3 59 yX2_copyFrom, Cond.instanceMethod yX2_copyFrom, Cond.selects RX2 yX2_copyFrom yX2_copyFrom, Cond.initialized RX2, Cond.code yX2_copyFrom cX2_copyFrom 2 none, Cond.fieldLink RX2 9 "IdleDispatcher$Server" "up" "Z", Cond.fieldLink RX2 15 "IdleDispatcher$Server" "length" "I", Cond.fieldLink RX2 19 "IdleDispatcher$Server" "work" "I", Cond.fieldLink RX2 22 "IdleDispatcher$Server" "registeredAt" "I", Cond.fieldLink RX2 25 "IdleDispatcher$Server" "firstJob" "I", Cond.fieldLink RX2 28 "IdleDispatcher$Server" "lastJob" "I", Cond.methodLink RX3 63 yX0_copyFrom, Cond.instanceMethod yX0_copyFrom, Cond.selects RX0 yX0_copyFrom yX0_copyFrom, Cond.initialized RX0, Cond.code yX0_copyFrom cX0_copyFrom 2 none]
def wsX4_setReportPeriod_r3 : List Cond := [Cond.fieldLink RX0 9 "IdleDispatcher$Dispatcher" "policy" "I", Cond.fieldLink RX0 15 "IdleDispatcher$Dispatcher" "pointer" "I", Cond.fieldLink RX0 18 "IdleDispatcher$Dispatcher" "idleCount" "I", Cond.fieldLink RX0 21 "IdleDispatcher$Dispatcher" "idle" "[I", Cond.methodLink RX0 28 arraycopyName, Cond.native arraycopyName, Cond.static arraycopyName, Cond.initialized "java/lang/System", Cond.fieldLink RX0 25 "IdleDispatcher$Dispatcher" "known" "[I", Cond.methodLink RX3 66 yX1_copyFrom, Cond.instanceMethod yX1_copyFrom, Cond.selects RX1 yX1_copyFrom yX1_copyFrom, Cond.initialized RX1, Cond.code yX1_copyFrom cX1_copyFrom 2 none, Cond.fieldLink RX1 9 "IdleDispatcher$Jobs" "count" "I", Cond.fieldLink RX1 15 "IdleDispatcher$Jobs" "finished" "I", Cond.fieldLink RX1 18 "IdleDispatcher$Jobs" "begun" "I", Cond.fieldLink RX1 21 "IdleDispatcher$Jobs" "waitSum" "I", Cond.fieldLink RX1 24 "IdleDispatcher$Jobs" "missed" "I", Cond.fieldLink RX1 27 "IdleDispatcher$Jobs" "server" "[I", Cond.methodLink RX1 43 arraycopyName, Cond.fieldLink RX1 31 "IdleDispatcher$Jobs" "left" "[I", Cond.fieldLink RX1 34 "IdleDispatcher$Jobs" "submittedAt" "[I", Cond.fieldLink RX1 37 "IdleDispatcher$Jobs" "wait" "[I"]
def wsX4_setReportPeriod_r4 : List Cond := [Cond.fieldLink RX1 40 "IdleDispatcher$Jobs" "next" "[I", Cond.methodLink RX3 69 yX3_collectCandidates, Cond.instanceMethod yX3_collectCandidates, Cond.selects RX3 yX3_collectCandidates yX3_collectCandidates, Cond.code yX3_collectCandidates cX3_collectCandidates 2 none, Cond.fieldLink RX3 52 "IdleDispatcher$State" "candidateCount" "I", Cond.fieldLink RX3 79 "IdleDispatcher$Server" "up" "Z", Cond.fieldLink RX3 55 "IdleDispatcher$State" "candidates" "[I"]
def wsX4_setReportPeriod : List Cond := .code yX4_setReportPeriod cX4_setReportPeriod 3 (some .int) :: ((wsX4_setReportPeriod_r1 ++ (wsX4_setReportPeriod_r2 ++ (wsX4_setReportPeriod_r3 ++ wsX4_setReportPeriod_r4))) ++ wsX40 ++ wsX30 ++ wsX20 ++ wsX00 ++ wsX10 ++ (vx_atS RX4 188 "java/lang/IllegalArgumentException" ["java/lang/RuntimeException", "java/lang/Exception"]).filter goodWord)
def wsX4_setRandom_r1 : List Cond := [Cond.constant RX4 73 (999999), Cond.fieldLink RX4 10 "IdleDispatcher" "state" "LIdleDispatcher$State;", Cond.fieldLink RX4 74 "IdleDispatcher$State" "random" "J", Cond.methodLink RX4 41 yX4_requireRange, Cond.static yX4_requireRange, Cond.initialized RX4, Cond.code yX4_requireRange cX4_requireRange 3 none, Cond.classLink RX4 184 "java/lang/IllegalArgumentException", Cond.initialized "java/lang/IllegalArgumentException", Cond.methodLink RX4 34 yX4_save, Cond.instanceMethod yX4_save, Cond.selects RX4 yX4_save yX4_save, Cond.code yX4_save cX4_save 1 none, Cond.fieldLink RX4 20 "IdleDispatcher" "savedCount" "I", Cond.fieldLink RX4 16 "IdleDispatcher" "saved" "[LIdleDispatcher$State;", Cond.methodLink RX4 177 yX4_dropOldest, Cond.instanceMethod yX4_dropOldest, Cond.selects RX4 yX4_dropOldest yX4_dropOldest, Cond.code yX4_dropOldest cX4_dropOldest 3 none, Cond.methodLink RX4 180 yX3_copyFrom, Cond.instanceMethod yX3_copyFrom, Cond.selects RX3 yX3_copyFrom yX3_copyFrom, Cond.initialized RX3, Cond.code yX3_copyFrom cX3_copyFrom 3 none]
def wsX4_setRandom_r2 : List Cond := [Cond.fieldLink RX3 9 "IdleDispatcher$State" "now" "I", Cond.fieldLink RX3 15 "IdleDispatcher$State" "random" "J", Cond.fieldLink RX3 19 "IdleDispatcher$State" "joinMode" "I", Cond.fieldLink RX3 22 "IdleDispatcher$State" "reportPeriod" "I", Cond.fieldLink RX3 25 "IdleDispatcher$State" "serverCount" "I", Cond.fieldLink RX3 28 "IdleDispatcher$State" "dispatcherCount" "I", Cond.fieldLink RX3 33 "IdleDispatcher$State" "servers" "[LIdleDispatcher$Server;", Cond.fieldLink RX3 40 "IdleDispatcher$State" "dispatchers" "[LIdleDispatcher$Dispatcher;", Cond.fieldLink RX3 48 "IdleDispatcher$State" "jobs" "LIdleDispatcher$Jobs;", Cond.methodLink RX3 59 yX2_copyFrom, Cond.instanceMethod yX2_copyFrom, Cond.selects RX2 yX2_copyFrom yX2_copyFrom, Cond.initialized RX2, Cond.code yX2_copyFrom cX2_copyFrom 2 none, Cond.fieldLink RX2 9 "IdleDispatcher$Server" "up" "Z", Cond.fieldLink RX2 15 "IdleDispatcher$Server" "length" "I", Cond.fieldLink RX2 19 "IdleDispatcher$Server" "work" "I", Cond.fieldLink RX2 22 "IdleDispatcher$Server" "registeredAt" "I", Cond.fieldLink RX2 25 "IdleDispatcher$Server" "firstJob" "I", Cond.fieldLink RX2 28 "IdleDispatcher$Server" "lastJob" "I", Cond.methodLink RX3 63 yX0_copyFrom, Cond.instanceMethod yX0_copyFrom, Cond.selects RX0 yX0_copyFrom yX0_copyFrom, Cond.initialized RX0]
def wsX4_setRandom_r3 : List Cond := [Cond.code yX0_copyFrom cX0_copyFrom 2 none, Cond.fieldLink RX0 9 "IdleDispatcher$Dispatcher" "policy" "I", Cond.fieldLink RX0 15 "IdleDispatcher$Dispatcher" "pointer" "I", Cond.fieldLink RX0 18 "IdleDispatcher$Dispatcher" "idleCount" "I", Cond.fieldLink RX0 21 "IdleDispatcher$Dispatcher" "idle" "[I", Cond.methodLink RX0 28 arraycopyName, Cond.native arraycopyName, Cond.static arraycopyName, Cond.initialized "java/lang/System", Cond.fieldLink RX0 25 "IdleDispatcher$Dispatcher" "known" "[I", Cond.methodLink RX3 66 yX1_copyFrom, Cond.instanceMethod yX1_copyFrom, Cond.selects RX1 yX1_copyFrom yX1_copyFrom, Cond.initialized RX1, Cond.code yX1_copyFrom cX1_copyFrom 2 none, Cond.fieldLink RX1 9 "IdleDispatcher$Jobs" "count" "I", Cond.fieldLink RX1 15 "IdleDispatcher$Jobs" "finished" "I", Cond.fieldLink RX1 18 "IdleDispatcher$Jobs" "begun" "I", Cond.fieldLink RX1 21 "IdleDispatcher$Jobs" "waitSum" "I", Cond.fieldLink RX1 24 "IdleDispatcher$Jobs" "missed" "I", Cond.fieldLink RX1 27 "IdleDispatcher$Jobs" "server" "[I", Cond.methodLink RX1 43 arraycopyName, Cond.fieldLink RX1 31 "IdleDispatcher$Jobs" "left" "[I", Cond.fieldLink RX1 34 "IdleDispatcher$Jobs" "submittedAt" "[I"]
def wsX4_setRandom_r4 : List Cond := [Cond.fieldLink RX1 37 "IdleDispatcher$Jobs" "wait" "[I", Cond.fieldLink RX1 40 "IdleDispatcher$Jobs" "next" "[I", Cond.methodLink RX3 69 yX3_collectCandidates, Cond.instanceMethod yX3_collectCandidates, Cond.selects RX3 yX3_collectCandidates yX3_collectCandidates, Cond.code yX3_collectCandidates cX3_collectCandidates 2 none, Cond.fieldLink RX3 52 "IdleDispatcher$State" "candidateCount" "I", Cond.fieldLink RX3 79 "IdleDispatcher$Server" "up" "Z", Cond.fieldLink RX3 55 "IdleDispatcher$State" "candidates" "[I"]
def wsX4_setRandom : List Cond := .code yX4_setRandom cX4_setRandom 2 (some .int) :: ((wsX4_setRandom_r1 ++ (wsX4_setRandom_r2 ++ (wsX4_setRandom_r3 ++ wsX4_setRandom_r4))) ++ wsX40 ++ wsX30 ++ wsX20 ++ wsX00 ++ wsX10 ++ (vx_atS RX4 188 "java/lang/IllegalArgumentException" ["java/lang/RuntimeException", "java/lang/Exception"]).filter goodWord)
def wsX4_requireServer : List Cond := .code yX4_requireServer cX4_requireServer 2 none :: ([.classLink RX4 184 "java/lang/IllegalArgumentException", .initialized "java/lang/IllegalArgumentException", .fieldLink RX4 10 "IdleDispatcher" "state" "LIdleDispatcher$State;", .fieldLink RX4 24 "IdleDispatcher$State" "serverCount" "I"] ++ wsX40 ++ wsX30 ++ (vx_atS RX4 188 "java/lang/IllegalArgumentException" ["java/lang/RuntimeException", "java/lang/Exception"]).filter goodWord)
def wsX4_setUp_r1 : List Cond := [Cond.fieldLink RX4 10 "IdleDispatcher" "state" "LIdleDispatcher$State;", Cond.methodLink RX4 78 yX4_requireServer, Cond.instanceMethod yX4_requireServer, Cond.selects RX4 yX4_requireServer yX4_requireServer, Cond.initialized RX4, Cond.code yX4_requireServer cX4_requireServer 2 none, Cond.classLink RX4 184 "java/lang/IllegalArgumentException", Cond.initialized "java/lang/IllegalArgumentException", Cond.fieldLink RX4 24 "IdleDispatcher$State" "serverCount" "I", Cond.methodLink RX4 34 yX4_save, Cond.instanceMethod yX4_save, Cond.selects RX4 yX4_save yX4_save, Cond.code yX4_save cX4_save 1 none, Cond.fieldLink RX4 20 "IdleDispatcher" "savedCount" "I", Cond.fieldLink RX4 16 "IdleDispatcher" "saved" "[LIdleDispatcher$State;", Cond.methodLink RX4 177 yX4_dropOldest, Cond.instanceMethod yX4_dropOldest, Cond.selects RX4 yX4_dropOldest yX4_dropOldest, Cond.code yX4_dropOldest cX4_dropOldest 3 none, Cond.methodLink RX4 180 yX3_copyFrom, Cond.instanceMethod yX3_copyFrom, Cond.selects RX3 yX3_copyFrom yX3_copyFrom, Cond.initialized RX3, Cond.code yX3_copyFrom cX3_copyFrom 3 none]
def wsX4_setUp_r2 : List Cond := [Cond.fieldLink RX3 9 "IdleDispatcher$State" "now" "I", Cond.fieldLink RX3 15 "IdleDispatcher$State" "random" "J", Cond.fieldLink RX3 19 "IdleDispatcher$State" "joinMode" "I", Cond.fieldLink RX3 22 "IdleDispatcher$State" "reportPeriod" "I", Cond.fieldLink RX3 25 "IdleDispatcher$State" "serverCount" "I", Cond.fieldLink RX3 28 "IdleDispatcher$State" "dispatcherCount" "I", Cond.fieldLink RX3 33 "IdleDispatcher$State" "servers" "[LIdleDispatcher$Server;", Cond.fieldLink RX3 40 "IdleDispatcher$State" "dispatchers" "[LIdleDispatcher$Dispatcher;", Cond.fieldLink RX3 48 "IdleDispatcher$State" "jobs" "LIdleDispatcher$Jobs;", Cond.methodLink RX3 59 yX2_copyFrom, Cond.instanceMethod yX2_copyFrom, Cond.selects RX2 yX2_copyFrom yX2_copyFrom, Cond.initialized RX2, Cond.code yX2_copyFrom cX2_copyFrom 2 none, Cond.fieldLink RX2 9 "IdleDispatcher$Server" "up" "Z", Cond.fieldLink RX2 15 "IdleDispatcher$Server" "length" "I", Cond.fieldLink RX2 19 "IdleDispatcher$Server" "work" "I", Cond.fieldLink RX2 22 "IdleDispatcher$Server" "registeredAt" "I", Cond.fieldLink RX2 25 "IdleDispatcher$Server" "firstJob" "I", Cond.fieldLink RX2 28 "IdleDispatcher$Server" "lastJob" "I", Cond.methodLink RX3 63 yX0_copyFrom, Cond.instanceMethod yX0_copyFrom, Cond.selects RX0 yX0_copyFrom yX0_copyFrom, Cond.initialized RX0]
def wsX4_setUp_r3 : List Cond := [Cond.code yX0_copyFrom cX0_copyFrom 2 none, Cond.fieldLink RX0 9 "IdleDispatcher$Dispatcher" "policy" "I", Cond.fieldLink RX0 15 "IdleDispatcher$Dispatcher" "pointer" "I", Cond.fieldLink RX0 18 "IdleDispatcher$Dispatcher" "idleCount" "I", Cond.fieldLink RX0 21 "IdleDispatcher$Dispatcher" "idle" "[I", Cond.methodLink RX0 28 arraycopyName, Cond.native arraycopyName, Cond.static arraycopyName, Cond.initialized "java/lang/System", Cond.fieldLink RX0 25 "IdleDispatcher$Dispatcher" "known" "[I", Cond.methodLink RX3 66 yX1_copyFrom, Cond.instanceMethod yX1_copyFrom, Cond.selects RX1 yX1_copyFrom yX1_copyFrom, Cond.initialized RX1, Cond.code yX1_copyFrom cX1_copyFrom 2 none, Cond.fieldLink RX1 9 "IdleDispatcher$Jobs" "count" "I", Cond.fieldLink RX1 15 "IdleDispatcher$Jobs" "finished" "I", Cond.fieldLink RX1 18 "IdleDispatcher$Jobs" "begun" "I", Cond.fieldLink RX1 21 "IdleDispatcher$Jobs" "waitSum" "I", Cond.fieldLink RX1 24 "IdleDispatcher$Jobs" "missed" "I", Cond.fieldLink RX1 27 "IdleDispatcher$Jobs" "server" "[I", Cond.methodLink RX1 43 arraycopyName, Cond.fieldLink RX1 31 "IdleDispatcher$Jobs" "left" "[I", Cond.fieldLink RX1 34 "IdleDispatcher$Jobs" "submittedAt" "[I"]
def wsX4_setUp_r4 : List Cond := [Cond.fieldLink RX1 37 "IdleDispatcher$Jobs" "wait" "[I", Cond.fieldLink RX1 40 "IdleDispatcher$Jobs" "next" "[I", Cond.methodLink RX3 69 yX3_collectCandidates, Cond.instanceMethod yX3_collectCandidates, Cond.selects RX3 yX3_collectCandidates yX3_collectCandidates, Cond.code yX3_collectCandidates cX3_collectCandidates 2 none, Cond.fieldLink RX3 52 "IdleDispatcher$State" "candidateCount" "I", Cond.fieldLink RX3 79 "IdleDispatcher$Server" "up" "Z", Cond.fieldLink RX3 55 "IdleDispatcher$State" "candidates" "[I", Cond.methodLink RX4 81 yX3_switchServer, Cond.instanceMethod yX3_switchServer, Cond.selects RX3 yX3_switchServer yX3_switchServer, Cond.code yX3_switchServer cX3_switchServer 5 (some .boolean), Cond.fieldLink RX3 86 "IdleDispatcher$Server" "length" "I", Cond.methodLink RX3 83 yX3_leaveIdleList, Cond.instanceMethod yX3_leaveIdleList, Cond.selects RX3 yX3_leaveIdleList yX3_leaveIdleList, Cond.code yX3_leaveIdleList cX3_leaveIdleList 3 none, Cond.fieldLink RX3 104 "IdleDispatcher$Server" "registeredAt" "I", Cond.methodLink RX3 113 yX0_removeIdle, Cond.instanceMethod yX0_removeIdle, Cond.selects RX0 yX0_removeIdle yX0_removeIdle, Cond.code yX0_removeIdle cX0_removeIdle 4 none, Cond.methodLink RX3 72 yX3_register]
def wsX4_setUp_r5 : List Cond := [Cond.instanceMethod yX3_register, Cond.selects RX3 yX3_register yX3_register, Cond.code yX3_register cX3_register 3 none, Cond.methodLink RX3 97 yX3_chooseList, Cond.instanceMethod yX3_chooseList, Cond.selects RX3 yX3_chooseList yX3_chooseList, Cond.code yX3_chooseList cX3_chooseList 4 (some .int), Cond.fieldLink RX3 110 "IdleDispatcher$Dispatcher" "idleCount" "I", Cond.methodLink RX3 107 yX3_draw, Cond.instanceMethod yX3_draw, Cond.selects RX3 yX3_draw yX3_draw, Cond.code yX3_draw cX3_draw 2 (some .int), Cond.constantLong RX3 89 (1103515245), Cond.constantLong RX3 91 (12345), Cond.constantLong RX3 93 (2147483648), Cond.constantLong RX3 95 (65536), Cond.methodLink RX3 101 yX0_appendIdle, Cond.instanceMethod yX0_appendIdle, Cond.selects RX0 yX0_appendIdle yX0_appendIdle, Cond.code yX0_appendIdle cX0_appendIdle 2 none]
def wsX4_setUp : List Cond := .code yX4_setUp cX4_setUp 3 (some .boolean) :: ((wsX4_setUp_r1 ++ (wsX4_setUp_r2 ++ (wsX4_setUp_r3 ++ (wsX4_setUp_r4 ++ wsX4_setUp_r5)))) ++ wsX40 ++ wsX30 ++ wsX20 ++ wsX00 ++ wsX10 ++ (vx_atS RX4 188 "java/lang/IllegalArgumentException" ["java/lang/RuntimeException", "java/lang/Exception"]).filter goodWord)
def wsX4_requireServerUp : List Cond := .code yX4_requireServerUp cX4_requireServerUp 1 none :: ([.classLink RX4 27 "java/lang/IllegalStateException", .initialized "java/lang/IllegalStateException", .fieldLink RX4 10 "IdleDispatcher" "state" "LIdleDispatcher$State;", .fieldLink RX4 191 "IdleDispatcher$State" "candidateCount" "I"] ++ wsX40 ++ wsX30 ++ (vx_atS RX4 31 "java/lang/IllegalStateException" ["java/lang/RuntimeException", "java/lang/Exception"]).filter goodWord)
def wsX4_submit_r1 : List Cond := [Cond.classLink RX4 27 "java/lang/IllegalStateException", Cond.initialized "java/lang/IllegalStateException", Cond.fieldLink RX4 10 "IdleDispatcher" "state" "LIdleDispatcher$State;", Cond.fieldLink RX4 88 "IdleDispatcher$State" "jobs" "LIdleDispatcher$Jobs;", Cond.fieldLink RX4 92 "IdleDispatcher$Jobs" "count" "I", Cond.methodLink RX4 54 yX4_requireDispatcher, Cond.instanceMethod yX4_requireDispatcher, Cond.selects RX4 yX4_requireDispatcher yX4_requireDispatcher, Cond.initialized RX4, Cond.code yX4_requireDispatcher cX4_requireDispatcher 2 none, Cond.classLink RX4 184 "java/lang/IllegalArgumentException", Cond.initialized "java/lang/IllegalArgumentException", Cond.fieldLink RX4 45 "IdleDispatcher$State" "dispatcherCount" "I", Cond.methodLink RX4 41 yX4_requireRange, Cond.static yX4_requireRange, Cond.code yX4_requireRange cX4_requireRange 3 none, Cond.methodLink RX4 85 yX4_requireServerUp, Cond.instanceMethod yX4_requireServerUp, Cond.selects RX4 yX4_requireServerUp yX4_requireServerUp, Cond.code yX4_requireServerUp cX4_requireServerUp 1 none, Cond.fieldLink RX4 191 "IdleDispatcher$State" "candidateCount" "I", Cond.methodLink RX4 34 yX4_save, Cond.instanceMethod yX4_save, Cond.selects RX4 yX4_save yX4_save]
def wsX4_submit_r2 : List Cond := [Cond.code yX4_save cX4_save 1 none, Cond.fieldLink RX4 20 "IdleDispatcher" "savedCount" "I", Cond.fieldLink RX4 16 "IdleDispatcher" "saved" "[LIdleDispatcher$State;", Cond.methodLink RX4 177 yX4_dropOldest, Cond.instanceMethod yX4_dropOldest, Cond.selects RX4 yX4_dropOldest yX4_dropOldest, Cond.code yX4_dropOldest cX4_dropOldest 3 none, Cond.methodLink RX4 180 yX3_copyFrom, Cond.instanceMethod yX3_copyFrom, Cond.selects RX3 yX3_copyFrom yX3_copyFrom, Cond.initialized RX3, Cond.code yX3_copyFrom cX3_copyFrom 3 none, Cond.fieldLink RX3 9 "IdleDispatcher$State" "now" "I", Cond.fieldLink RX3 15 "IdleDispatcher$State" "random" "J", Cond.fieldLink RX3 19 "IdleDispatcher$State" "joinMode" "I", Cond.fieldLink RX3 22 "IdleDispatcher$State" "reportPeriod" "I", Cond.fieldLink RX3 25 "IdleDispatcher$State" "serverCount" "I", Cond.fieldLink RX3 28 "IdleDispatcher$State" "dispatcherCount" "I", Cond.fieldLink RX3 33 "IdleDispatcher$State" "servers" "[LIdleDispatcher$Server;", Cond.fieldLink RX3 40 "IdleDispatcher$State" "dispatchers" "[LIdleDispatcher$Dispatcher;", Cond.fieldLink RX3 48 "IdleDispatcher$State" "jobs" "LIdleDispatcher$Jobs;", Cond.methodLink RX3 59 yX2_copyFrom, Cond.instanceMethod yX2_copyFrom, Cond.selects RX2 yX2_copyFrom yX2_copyFrom]
def wsX4_submit_r3 : List Cond := [Cond.initialized RX2, Cond.code yX2_copyFrom cX2_copyFrom 2 none, Cond.fieldLink RX2 9 "IdleDispatcher$Server" "up" "Z", Cond.fieldLink RX2 15 "IdleDispatcher$Server" "length" "I", Cond.fieldLink RX2 19 "IdleDispatcher$Server" "work" "I", Cond.fieldLink RX2 22 "IdleDispatcher$Server" "registeredAt" "I", Cond.fieldLink RX2 25 "IdleDispatcher$Server" "firstJob" "I", Cond.fieldLink RX2 28 "IdleDispatcher$Server" "lastJob" "I", Cond.methodLink RX3 63 yX0_copyFrom, Cond.instanceMethod yX0_copyFrom, Cond.selects RX0 yX0_copyFrom yX0_copyFrom, Cond.initialized RX0, Cond.code yX0_copyFrom cX0_copyFrom 2 none, Cond.fieldLink RX0 9 "IdleDispatcher$Dispatcher" "policy" "I", Cond.fieldLink RX0 15 "IdleDispatcher$Dispatcher" "pointer" "I", Cond.fieldLink RX0 18 "IdleDispatcher$Dispatcher" "idleCount" "I", Cond.fieldLink RX0 21 "IdleDispatcher$Dispatcher" "idle" "[I", Cond.methodLink RX0 28 arraycopyName, Cond.native arraycopyName, Cond.static arraycopyName, Cond.initialized "java/lang/System", Cond.fieldLink RX0 25 "IdleDispatcher$Dispatcher" "known" "[I", Cond.methodLink RX3 66 yX1_copyFrom, Cond.instanceMethod yX1_copyFrom]
def wsX4_submit_r4 : List Cond := [Cond.selects RX1 yX1_copyFrom yX1_copyFrom, Cond.initialized RX1, Cond.code yX1_copyFrom cX1_copyFrom 2 none, Cond.fieldLink RX1 9 "IdleDispatcher$Jobs" "count" "I", Cond.fieldLink RX1 15 "IdleDispatcher$Jobs" "finished" "I", Cond.fieldLink RX1 18 "IdleDispatcher$Jobs" "begun" "I", Cond.fieldLink RX1 21 "IdleDispatcher$Jobs" "waitSum" "I", Cond.fieldLink RX1 24 "IdleDispatcher$Jobs" "missed" "I", Cond.fieldLink RX1 27 "IdleDispatcher$Jobs" "server" "[I", Cond.methodLink RX1 43 arraycopyName, Cond.fieldLink RX1 31 "IdleDispatcher$Jobs" "left" "[I", Cond.fieldLink RX1 34 "IdleDispatcher$Jobs" "submittedAt" "[I", Cond.fieldLink RX1 37 "IdleDispatcher$Jobs" "wait" "[I", Cond.fieldLink RX1 40 "IdleDispatcher$Jobs" "next" "[I", Cond.methodLink RX3 69 yX3_collectCandidates, Cond.instanceMethod yX3_collectCandidates, Cond.selects RX3 yX3_collectCandidates yX3_collectCandidates, Cond.code yX3_collectCandidates cX3_collectCandidates 2 none, Cond.fieldLink RX3 52 "IdleDispatcher$State" "candidateCount" "I", Cond.fieldLink RX3 79 "IdleDispatcher$Server" "up" "Z", Cond.fieldLink RX3 55 "IdleDispatcher$State" "candidates" "[I", Cond.methodLink RX4 99 yX3_dispatch, Cond.instanceMethod yX3_dispatch, Cond.selects RX3 yX3_dispatch yX3_dispatch]
def wsX4_submit_r5 : List Cond := [Cond.code yX3_dispatch cX3_dispatch 4 (some .int), Cond.fieldLink RX3 86 "IdleDispatcher$Server" "length" "I", Cond.fieldLink RX3 159 "IdleDispatcher$Jobs" "missed" "I", Cond.methodLink RX3 152 yX3_takeServer, Cond.instanceMethod yX3_takeServer, Cond.selects RX3 yX3_takeServer yX3_takeServer, Cond.code yX3_takeServer cX3_takeServer 4 (some .int), Cond.fieldLink RX3 76 "IdleDispatcher$Dispatcher" "policy" "I", Cond.fieldLink RX3 116 "IdleDispatcher$Dispatcher" "pointer" "I", Cond.fieldLink RX3 125 "IdleDispatcher$Dispatcher" "known" "[I", Cond.methodLink RX3 132 yX3_certainServer, Cond.instanceMethod yX3_certainServer, Cond.selects RX3 yX3_certainServer yX3_certainServer, Cond.code yX3_certainServer cX3_certainServer 2 (some .int), Cond.fieldLink RX3 110 "IdleDispatcher$Dispatcher" "idleCount" "I", Cond.fieldLink RX3 122 "IdleDispatcher$Dispatcher" "idle" "[I", Cond.methodLink RX3 119 yX3_nextInTurn, Cond.instanceMethod yX3_nextInTurn, Cond.selects RX3 yX3_nextInTurn yX3_nextInTurn, Cond.code yX3_nextInTurn cX3_nextInTurn 3 (some .int), Cond.methodLink RX3 128 yX3_leastKnown, Cond.instanceMethod yX3_leastKnown, Cond.selects RX3 yX3_leastKnown yX3_leastKnown, Cond.code yX3_leastKnown cX3_leastKnown 4 (some .int)]
def wsX4_submit_r6 : List Cond := [Cond.methodLink RX3 136 yX3_drawServer, Cond.instanceMethod yX3_drawServer, Cond.selects RX3 yX3_drawServer yX3_drawServer, Cond.code yX3_drawServer cX3_drawServer 4 (some .int), Cond.methodLink RX3 107 yX3_draw, Cond.instanceMethod yX3_draw, Cond.selects RX3 yX3_draw yX3_draw, Cond.code yX3_draw cX3_draw 2 (some .int), Cond.constantLong RX3 89 (1103515245), Cond.constantLong RX3 91 (12345), Cond.constantLong RX3 93 (2147483648), Cond.constantLong RX3 95 (65536), Cond.methodLink RX3 155 yX3_anyIdle, Cond.instanceMethod yX3_anyIdle, Cond.selects RX3 yX3_anyIdle yX3_anyIdle, Cond.code yX3_anyIdle cX3_anyIdle 2 (some .boolean), Cond.methodLink RX3 166 yX2_isIdle, Cond.instanceMethod yX2_isIdle, Cond.selects RX2 yX2_isIdle yX2_isIdle, Cond.code yX2_isIdle cX2_isIdle 1 (some .boolean), Cond.methodLink RX3 83 yX3_leaveIdleList, Cond.instanceMethod yX3_leaveIdleList, Cond.selects RX3 yX3_leaveIdleList yX3_leaveIdleList, Cond.code yX3_leaveIdleList cX3_leaveIdleList 3 none]
def wsX4_submit_r7 : List Cond := [Cond.fieldLink RX3 104 "IdleDispatcher$Server" "registeredAt" "I", Cond.methodLink RX3 113 yX0_removeIdle, Cond.instanceMethod yX0_removeIdle, Cond.selects RX0 yX0_removeIdle yX0_removeIdle, Cond.code yX0_removeIdle cX0_removeIdle 4 none, Cond.methodLink RX3 162 yX3_enqueue, Cond.instanceMethod yX3_enqueue, Cond.selects RX3 yX3_enqueue yX3_enqueue, Cond.code yX3_enqueue cX3_enqueue 5 none, Cond.fieldLink RX3 173 "IdleDispatcher$Server" "lastJob" "I", Cond.fieldLink RX3 176 "IdleDispatcher$Server" "firstJob" "I", Cond.fieldLink RX3 182 "IdleDispatcher$Jobs" "next" "[I", Cond.fieldLink RX3 185 "IdleDispatcher$Server" "work" "I", Cond.methodLink RX3 169 yX1_append, Cond.instanceMethod yX1_append, Cond.selects RX1 yX1_append yX1_append, Cond.code yX1_append cX1_append 5 (some .int), Cond.methodLink RX3 179 yX1_begin, Cond.instanceMethod yX1_begin, Cond.selects RX1 yX1_begin yX1_begin, Cond.code yX1_begin cX1_begin 3 none]
def wsX4_submit : List Cond := .code yX4_submit cX4_submit 3 (some .int) :: ((wsX4_submit_r1 ++ (wsX4_submit_r2 ++ (wsX4_submit_r3 ++ (wsX4_submit_r4 ++ (wsX4_submit_r5 ++ (wsX4_submit_r6 ++ wsX4_submit_r7)))))) ++ wsX40 ++ wsX30 ++ wsX10 ++ wsX20 ++ wsX00 ++ (vx_atS RX4 31 "java/lang/IllegalStateException" ["java/lang/RuntimeException", "java/lang/Exception"]).filter goodWord ++ (vx_atS RX4 188 "java/lang/IllegalArgumentException" ["java/lang/RuntimeException", "java/lang/Exception"]).filter goodWord)
def wsX4_tick_r1 : List Cond := [Cond.fieldLink RX4 10 "IdleDispatcher" "state" "LIdleDispatcher$State;", Cond.fieldLink RX4 88 "IdleDispatcher$State" "jobs" "LIdleDispatcher$Jobs;", Cond.fieldLink RX4 103 "IdleDispatcher$Jobs" "finished" "I", Cond.methodLink RX4 41 yX4_requireRange, Cond.static yX4_requireRange, Cond.initialized RX4, Cond.code yX4_requireRange cX4_requireRange 3 none, Cond.classLink RX4 184 "java/lang/IllegalArgumentException", Cond.initialized "java/lang/IllegalArgumentException", Cond.methodLink RX4 34 yX4_save, Cond.instanceMethod yX4_save, Cond.selects RX4 yX4_save yX4_save, Cond.code yX4_save cX4_save 1 none, Cond.fieldLink RX4 20 "IdleDispatcher" "savedCount" "I", Cond.fieldLink RX4 16 "IdleDispatcher" "saved" "[LIdleDispatcher$State;", Cond.methodLink RX4 177 yX4_dropOldest, Cond.instanceMethod yX4_dropOldest, Cond.selects RX4 yX4_dropOldest yX4_dropOldest, Cond.code yX4_dropOldest cX4_dropOldest 3 none, Cond.methodLink RX4 180 yX3_copyFrom, Cond.instanceMethod yX3_copyFrom, Cond.selects RX3 yX3_copyFrom yX3_copyFrom, Cond.initialized RX3, Cond.code yX3_copyFrom cX3_copyFrom 3 none]
def wsX4_tick_r2 : List Cond := [Cond.fieldLink RX3 9 "IdleDispatcher$State" "now" "I", Cond.fieldLink RX3 15 "IdleDispatcher$State" "random" "J", Cond.fieldLink RX3 19 "IdleDispatcher$State" "joinMode" "I", Cond.fieldLink RX3 22 "IdleDispatcher$State" "reportPeriod" "I", Cond.fieldLink RX3 25 "IdleDispatcher$State" "serverCount" "I", Cond.fieldLink RX3 28 "IdleDispatcher$State" "dispatcherCount" "I", Cond.fieldLink RX3 33 "IdleDispatcher$State" "servers" "[LIdleDispatcher$Server;", Cond.fieldLink RX3 40 "IdleDispatcher$State" "dispatchers" "[LIdleDispatcher$Dispatcher;", Cond.fieldLink RX3 48 "IdleDispatcher$State" "jobs" "LIdleDispatcher$Jobs;", Cond.methodLink RX3 59 yX2_copyFrom, Cond.instanceMethod yX2_copyFrom, Cond.selects RX2 yX2_copyFrom yX2_copyFrom, Cond.initialized RX2, Cond.code yX2_copyFrom cX2_copyFrom 2 none, Cond.fieldLink RX2 9 "IdleDispatcher$Server" "up" "Z", Cond.fieldLink RX2 15 "IdleDispatcher$Server" "length" "I", Cond.fieldLink RX2 19 "IdleDispatcher$Server" "work" "I", Cond.fieldLink RX2 22 "IdleDispatcher$Server" "registeredAt" "I", Cond.fieldLink RX2 25 "IdleDispatcher$Server" "firstJob" "I", Cond.fieldLink RX2 28 "IdleDispatcher$Server" "lastJob" "I", Cond.methodLink RX3 63 yX0_copyFrom, Cond.instanceMethod yX0_copyFrom, Cond.selects RX0 yX0_copyFrom yX0_copyFrom, Cond.initialized RX0]
def wsX4_tick_r3 : List Cond := [Cond.code yX0_copyFrom cX0_copyFrom 2 none, Cond.fieldLink RX0 9 "IdleDispatcher$Dispatcher" "policy" "I", Cond.fieldLink RX0 15 "IdleDispatcher$Dispatcher" "pointer" "I", Cond.fieldLink RX0 18 "IdleDispatcher$Dispatcher" "idleCount" "I", Cond.fieldLink RX0 21 "IdleDispatcher$Dispatcher" "idle" "[I", Cond.methodLink RX0 28 arraycopyName, Cond.native arraycopyName, Cond.static arraycopyName, Cond.initialized "java/lang/System", Cond.fieldLink RX0 25 "IdleDispatcher$Dispatcher" "known" "[I", Cond.methodLink RX3 66 yX1_copyFrom, Cond.instanceMethod yX1_copyFrom, Cond.selects RX1 yX1_copyFrom yX1_copyFrom, Cond.initialized RX1, Cond.code yX1_copyFrom cX1_copyFrom 2 none, Cond.fieldLink RX1 9 "IdleDispatcher$Jobs" "count" "I", Cond.fieldLink RX1 15 "IdleDispatcher$Jobs" "finished" "I", Cond.fieldLink RX1 18 "IdleDispatcher$Jobs" "begun" "I", Cond.fieldLink RX1 21 "IdleDispatcher$Jobs" "waitSum" "I", Cond.fieldLink RX1 24 "IdleDispatcher$Jobs" "missed" "I", Cond.fieldLink RX1 27 "IdleDispatcher$Jobs" "server" "[I", Cond.methodLink RX1 43 arraycopyName, Cond.fieldLink RX1 31 "IdleDispatcher$Jobs" "left" "[I", Cond.fieldLink RX1 34 "IdleDispatcher$Jobs" "submittedAt" "[I"]
def wsX4_tick_r4 : List Cond := [Cond.fieldLink RX1 37 "IdleDispatcher$Jobs" "wait" "[I", Cond.fieldLink RX1 40 "IdleDispatcher$Jobs" "next" "[I", Cond.methodLink RX3 69 yX3_collectCandidates, Cond.instanceMethod yX3_collectCandidates, Cond.selects RX3 yX3_collectCandidates yX3_collectCandidates, Cond.code yX3_collectCandidates cX3_collectCandidates 2 none, Cond.fieldLink RX3 52 "IdleDispatcher$State" "candidateCount" "I", Cond.fieldLink RX3 79 "IdleDispatcher$Server" "up" "Z", Cond.fieldLink RX3 55 "IdleDispatcher$State" "candidates" "[I", Cond.methodLink RX4 106 yX3_passTick, Cond.instanceMethod yX3_passTick, Cond.selects RX3 yX3_passTick yX3_passTick, Cond.code yX3_passTick cX3_passTick 2 none, Cond.methodLink RX3 188 yX3_serve, Cond.instanceMethod yX3_serve, Cond.selects RX3 yX3_serve yX3_serve, Cond.code yX3_serve cX3_serve 4 none, Cond.fieldLink RX3 176 "IdleDispatcher$Server" "firstJob" "I", Cond.fieldLink RX3 185 "IdleDispatcher$Server" "work" "I", Cond.fieldLink RX3 194 "IdleDispatcher$Jobs" "left" "[I", Cond.methodLink RX3 197 yX3_finish, Cond.instanceMethod yX3_finish, Cond.selects RX3 yX3_finish yX3_finish, Cond.code yX3_finish cX3_finish 3 none]
def wsX4_tick_r5 : List Cond := [Cond.fieldLink RX3 201 "IdleDispatcher$Jobs" "finished" "I", Cond.fieldLink RX3 86 "IdleDispatcher$Server" "length" "I", Cond.fieldLink RX3 182 "IdleDispatcher$Jobs" "next" "[I", Cond.fieldLink RX3 173 "IdleDispatcher$Server" "lastJob" "I", Cond.methodLink RX3 179 yX1_begin, Cond.instanceMethod yX1_begin, Cond.selects RX1 yX1_begin yX1_begin, Cond.code yX1_begin cX1_begin 3 none, Cond.methodLink RX3 166 yX2_isIdle, Cond.instanceMethod yX2_isIdle, Cond.selects RX2 yX2_isIdle yX2_isIdle, Cond.code yX2_isIdle cX2_isIdle 1 (some .boolean), Cond.methodLink RX3 72 yX3_register, Cond.instanceMethod yX3_register, Cond.selects RX3 yX3_register yX3_register, Cond.code yX3_register cX3_register 3 none, Cond.fieldLink RX3 104 "IdleDispatcher$Server" "registeredAt" "I", Cond.methodLink RX3 97 yX3_chooseList, Cond.instanceMethod yX3_chooseList, Cond.selects RX3 yX3_chooseList yX3_chooseList, Cond.code yX3_chooseList cX3_chooseList 4 (some .int), Cond.fieldLink RX3 110 "IdleDispatcher$Dispatcher" "idleCount" "I", Cond.methodLink RX3 107 yX3_draw, Cond.instanceMethod yX3_draw]
def wsX4_tick_r6 : List Cond := [Cond.selects RX3 yX3_draw yX3_draw, Cond.code yX3_draw cX3_draw 2 (some .int), Cond.constantLong RX3 89 (1103515245), Cond.constantLong RX3 91 (12345), Cond.constantLong RX3 93 (2147483648), Cond.constantLong RX3 95 (65536), Cond.methodLink RX3 101 yX0_appendIdle, Cond.instanceMethod yX0_appendIdle, Cond.selects RX0 yX0_appendIdle yX0_appendIdle, Cond.code yX0_appendIdle cX0_appendIdle 2 none, Cond.methodLink RX3 191 yX3_report, Cond.instanceMethod yX3_report, Cond.selects RX3 yX3_report yX3_report, Cond.code yX3_report cX3_report 3 none, Cond.fieldLink RX3 125 "IdleDispatcher$Dispatcher" "known" "[I"]
def wsX4_tick : List Cond := .code yX4_tick cX4_tick 4 (some .int) :: ((wsX4_tick_r1 ++ (wsX4_tick_r2 ++ (wsX4_tick_r3 ++ (wsX4_tick_r4 ++ (wsX4_tick_r5 ++ wsX4_tick_r6))))) ++ wsX40 ++ wsX30 ++ wsX10 ++ wsX20 ++ wsX00 ++ (vx_atS RX4 188 "java/lang/IllegalArgumentException" ["java/lang/RuntimeException", "java/lang/Exception"]).filter goodWord)
def wsX4_length : List Cond := .code yX4_length cX4_length 2 (some .int) :: ([.fieldLink RX4 10 "IdleDispatcher" "state" "LIdleDispatcher$State;", .fieldLink RX4 109 "IdleDispatcher$State" "servers" "[LIdleDispatcher$Server;", .fieldLink RX4 113 "IdleDispatcher$Server" "length" "I", .methodLink RX4 78 yX4_requireServer, .instanceMethod yX4_requireServer, .selects RX4 yX4_requireServer yX4_requireServer, .initialized RX4, .code yX4_requireServer cX4_requireServer 2 none, .classLink RX4 184 "java/lang/IllegalArgumentException", .initialized "java/lang/IllegalArgumentException", .fieldLink RX4 24 "IdleDispatcher$State" "serverCount" "I"] ++ wsX40 ++ wsX30 ++ wsX20 ++ (vx_atS RX4 188 "java/lang/IllegalArgumentException" ["java/lang/RuntimeException", "java/lang/Exception"]).filter goodWord)
def wsX4_work : List Cond := .code yX4_work cX4_work 2 (some .int) :: ([.fieldLink RX4 10 "IdleDispatcher" "state" "LIdleDispatcher$State;", .fieldLink RX4 109 "IdleDispatcher$State" "servers" "[LIdleDispatcher$Server;", .fieldLink RX4 118 "IdleDispatcher$Server" "work" "I", .methodLink RX4 78 yX4_requireServer, .instanceMethod yX4_requireServer, .selects RX4 yX4_requireServer yX4_requireServer, .initialized RX4, .code yX4_requireServer cX4_requireServer 2 none, .classLink RX4 184 "java/lang/IllegalArgumentException", .initialized "java/lang/IllegalArgumentException", .fieldLink RX4 24 "IdleDispatcher$State" "serverCount" "I"] ++ wsX40 ++ wsX30 ++ wsX20 ++ (vx_atS RX4 188 "java/lang/IllegalArgumentException" ["java/lang/RuntimeException", "java/lang/Exception"]).filter goodWord)
def wsX4_registeredAt : List Cond := .code yX4_registeredAt cX4_registeredAt 2 (some .int) :: ([.fieldLink RX4 10 "IdleDispatcher" "state" "LIdleDispatcher$State;", .fieldLink RX4 109 "IdleDispatcher$State" "servers" "[LIdleDispatcher$Server;", .fieldLink RX4 121 "IdleDispatcher$Server" "registeredAt" "I", .methodLink RX4 78 yX4_requireServer, .instanceMethod yX4_requireServer, .selects RX4 yX4_requireServer yX4_requireServer, .initialized RX4, .code yX4_requireServer cX4_requireServer 2 none, .classLink RX4 184 "java/lang/IllegalArgumentException", .initialized "java/lang/IllegalArgumentException", .fieldLink RX4 24 "IdleDispatcher$State" "serverCount" "I"] ++ wsX40 ++ wsX30 ++ wsX20 ++ (vx_atS RX4 188 "java/lang/IllegalArgumentException" ["java/lang/RuntimeException", "java/lang/Exception"]).filter goodWord)
def wsX4_idleCount : List Cond := .code yX4_idleCount cX4_idleCount 2 (some .int) :: ([.fieldLink RX4 10 "IdleDispatcher" "state" "LIdleDispatcher$State;", .fieldLink RX4 58 "IdleDispatcher$State" "dispatchers" "[LIdleDispatcher$Dispatcher;", .fieldLink RX4 124 "IdleDispatcher$Dispatcher" "idleCount" "I", .methodLink RX4 54 yX4_requireDispatcher, .instanceMethod yX4_requireDispatcher, .selects RX4 yX4_requireDispatcher yX4_requireDispatcher, .initialized RX4, .code yX4_requireDispatcher cX4_requireDispatcher 2 none, .classLink RX4 184 "java/lang/IllegalArgumentException", .initialized "java/lang/IllegalArgumentException", .fieldLink RX4 45 "IdleDispatcher$State" "dispatcherCount" "I"] ++ wsX40 ++ wsX30 ++ wsX00 ++ (vx_atS RX4 188 "java/lang/IllegalArgumentException" ["java/lang/RuntimeException", "java/lang/Exception"]).filter goodWord)
def wsX4_requireIndex : List Cond := .code yX4_requireIndex cX4_requireIndex 2 none :: ([.classLink RX4 198 "java/lang/IndexOutOfBoundsException", .initialized "java/lang/IndexOutOfBoundsException"] ++ (vx_atS RX4 202 "java/lang/IndexOutOfBoundsException" ["java/lang/RuntimeException", "java/lang/Exception"]).filter goodWord)
def wsX4_idleAt : List Cond := .code yX4_idleAt cX4_idleAt 3 (some .int) :: ([.fieldLink RX4 10 "IdleDispatcher" "state" "LIdleDispatcher$State;", .fieldLink RX4 58 "IdleDispatcher$State" "dispatchers" "[LIdleDispatcher$Dispatcher;", .fieldLink RX4 124 "IdleDispatcher$Dispatcher" "idleCount" "I", .fieldLink RX4 131 "IdleDispatcher$Dispatcher" "idle" "[I", .methodLink RX4 54 yX4_requireDispatcher, .instanceMethod yX4_requireDispatcher, .selects RX4 yX4_requireDispatcher yX4_requireDispatcher, .initialized RX4, .code yX4_requireDispatcher cX4_requireDispatcher 2 none, .classLink RX4 184 "java/lang/IllegalArgumentException", .initialized "java/lang/IllegalArgumentException", .fieldLink RX4 45 "IdleDispatcher$State" "dispatcherCount" "I", .methodLink RX4 127 yX4_requireIndex, .static yX4_requireIndex, .code yX4_requireIndex cX4_requireIndex 2 none, .classLink RX4 198 "java/lang/IndexOutOfBoundsException", .initialized "java/lang/IndexOutOfBoundsException"] ++ wsX40 ++ wsX30 ++ wsX00 ++ (vx_atS RX4 188 "java/lang/IllegalArgumentException" ["java/lang/RuntimeException", "java/lang/Exception"]).filter goodWord ++ (vx_atS RX4 202 "java/lang/IndexOutOfBoundsException" ["java/lang/RuntimeException", "java/lang/Exception"]).filter goodWord)
def wsX4_knownLength : List Cond := .code yX4_knownLength cX4_knownLength 3 (some .int) :: ([.fieldLink RX4 10 "IdleDispatcher" "state" "LIdleDispatcher$State;", .fieldLink RX4 58 "IdleDispatcher$State" "dispatchers" "[LIdleDispatcher$Dispatcher;", .fieldLink RX4 135 "IdleDispatcher$Dispatcher" "known" "[I", .methodLink RX4 54 yX4_requireDispatcher, .instanceMethod yX4_requireDispatcher, .selects RX4 yX4_requireDispatcher yX4_requireDispatcher, .initialized RX4, .code yX4_requireDispatcher cX4_requireDispatcher 2 none, .classLink RX4 184 "java/lang/IllegalArgumentException", .initialized "java/lang/IllegalArgumentException", .fieldLink RX4 45 "IdleDispatcher$State" "dispatcherCount" "I", .methodLink RX4 78 yX4_requireServer, .instanceMethod yX4_requireServer, .selects RX4 yX4_requireServer yX4_requireServer, .code yX4_requireServer cX4_requireServer 2 none, .fieldLink RX4 24 "IdleDispatcher$State" "serverCount" "I"] ++ wsX40 ++ wsX30 ++ wsX00 ++ (vx_atS RX4 188 "java/lang/IllegalArgumentException" ["java/lang/RuntimeException", "java/lang/Exception"]).filter goodWord)
def wsX4_commonDivisor : List Cond := .code yX4_commonDivisor cX4_commonDivisor 3 (some .int) :: ([])
def wsX4_expectedLength_r1 : List Cond := [Cond.fieldLink RX4 10 "IdleDispatcher" "state" "LIdleDispatcher$State;", Cond.methodLink RX4 54 yX4_requireDispatcher, Cond.instanceMethod yX4_requireDispatcher, Cond.selects RX4 yX4_requireDispatcher yX4_requireDispatcher, Cond.initialized RX4, Cond.code yX4_requireDispatcher cX4_requireDispatcher 2 none, Cond.classLink RX4 184 "java/lang/IllegalArgumentException", Cond.initialized "java/lang/IllegalArgumentException", Cond.fieldLink RX4 45 "IdleDispatcher$State" "dispatcherCount" "I", Cond.methodLink RX4 41 yX4_requireRange, Cond.static yX4_requireRange, Cond.code yX4_requireRange cX4_requireRange 3 none, Cond.methodLink RX4 85 yX4_requireServerUp, Cond.instanceMethod yX4_requireServerUp, Cond.selects RX4 yX4_requireServerUp yX4_requireServerUp, Cond.code yX4_requireServerUp cX4_requireServerUp 1 none, Cond.classLink RX4 27 "java/lang/IllegalStateException", Cond.initialized "java/lang/IllegalStateException", Cond.fieldLink RX4 191 "IdleDispatcher$State" "candidateCount" "I", Cond.methodLink RX4 138 yX3_sumOverOutcomes, Cond.instanceMethod yX3_sumOverOutcomes, Cond.selects RX3 yX3_sumOverOutcomes yX3_sumOverOutcomes, Cond.initialized RX3, Cond.code yX3_sumOverOutcomes cX3_sumOverOutcomes 4 (some .int)]
def wsX4_expectedLength_r2 : List Cond := [Cond.fieldLink RX3 40 "IdleDispatcher$State" "dispatchers" "[LIdleDispatcher$Dispatcher;", Cond.fieldLink RX3 33 "IdleDispatcher$State" "servers" "[LIdleDispatcher$Server;", Cond.fieldLink RX3 86 "IdleDispatcher$Server" "length" "I", Cond.fieldLink RX3 76 "IdleDispatcher$Dispatcher" "policy" "I", Cond.methodLink RX3 132 yX3_certainServer, Cond.instanceMethod yX3_certainServer, Cond.selects RX3 yX3_certainServer yX3_certainServer, Cond.code yX3_certainServer cX3_certainServer 2 (some .int), Cond.fieldLink RX3 116 "IdleDispatcher$Dispatcher" "pointer" "I", Cond.fieldLink RX3 110 "IdleDispatcher$Dispatcher" "idleCount" "I", Cond.fieldLink RX3 122 "IdleDispatcher$Dispatcher" "idle" "[I", Cond.fieldLink RX3 125 "IdleDispatcher$Dispatcher" "known" "[I", Cond.methodLink RX3 119 yX3_nextInTurn, Cond.instanceMethod yX3_nextInTurn, Cond.selects RX3 yX3_nextInTurn yX3_nextInTurn, Cond.code yX3_nextInTurn cX3_nextInTurn 3 (some .int), Cond.fieldLink RX3 52 "IdleDispatcher$State" "candidateCount" "I", Cond.fieldLink RX3 55 "IdleDispatcher$State" "candidates" "[I", Cond.methodLink RX3 128 yX3_leastKnown, Cond.instanceMethod yX3_leastKnown, Cond.selects RX3 yX3_leastKnown yX3_leastKnown, Cond.code yX3_leastKnown cX3_leastKnown 4 (some .int), Cond.methodLink RX3 139 yX3_sumOverPairs, Cond.instanceMethod yX3_sumOverPairs]
def wsX4_expectedLength_r3 : List Cond := [Cond.selects RX3 yX3_sumOverPairs yX3_sumOverPairs, Cond.code yX3_sumOverPairs cX3_sumOverPairs 5 (some .int), Cond.methodLink RX3 146 Lib.Math.min.name, Cond.static Lib.Math.min.name, Cond.initialized "java/lang/Math", Cond.code Lib.Math.min.name Lib.Math.min.code 2 (some .int), Cond.methodLink RX3 143 yX3_sumOverCandidates, Cond.instanceMethod yX3_sumOverCandidates, Cond.selects RX3 yX3_sumOverCandidates yX3_sumOverCandidates, Cond.code yX3_sumOverCandidates cX3_sumOverCandidates 3 (some .int), Cond.methodLink RX4 141 yX3_countOutcomes, Cond.instanceMethod yX3_countOutcomes, Cond.selects RX3 yX3_countOutcomes yX3_countOutcomes, Cond.code yX3_countOutcomes cX3_countOutcomes 3 (some .int), Cond.methodLink RX4 144 yX4_commonDivisor, Cond.static yX4_commonDivisor, Cond.code yX4_commonDivisor cX4_commonDivisor 3 (some .int)]
def wsX4_expectedLength : List Cond := .code yX4_expectedLength cX4_expectedLength 6 (some .int) :: ((wsX4_expectedLength_r1 ++ (wsX4_expectedLength_r2 ++ wsX4_expectedLength_r3)) ++ wsX40 ++ wsX30 ++ wsX20 ++ wsX00 ++ (vx_atS RX4 188 "java/lang/IllegalArgumentException" ["java/lang/RuntimeException", "java/lang/Exception"]).filter goodWord ++ (vx_atS RX4 31 "java/lang/IllegalStateException" ["java/lang/RuntimeException", "java/lang/Exception"]).filter goodWord)
def wsX4_submitted : List Cond := .code yX4_submitted cX4_submitted 1 (some .int) :: ([.fieldLink RX4 10 "IdleDispatcher" "state" "LIdleDispatcher$State;", .fieldLink RX4 88 "IdleDispatcher$State" "jobs" "LIdleDispatcher$Jobs;", .fieldLink RX4 92 "IdleDispatcher$Jobs" "count" "I"] ++ wsX40 ++ wsX30 ++ wsX10)
def wsX4_finished : List Cond := .code yX4_finished cX4_finished 1 (some .int) :: ([.fieldLink RX4 10 "IdleDispatcher" "state" "LIdleDispatcher$State;", .fieldLink RX4 88 "IdleDispatcher$State" "jobs" "LIdleDispatcher$Jobs;", .fieldLink RX4 103 "IdleDispatcher$Jobs" "finished" "I"] ++ wsX40 ++ wsX30 ++ wsX10)
def wsX4_serverOf : List Cond := .code yX4_serverOf cX4_serverOf 2 (some .int) :: ([.fieldLink RX4 10 "IdleDispatcher" "state" "LIdleDispatcher$State;", .fieldLink RX4 88 "IdleDispatcher$State" "jobs" "LIdleDispatcher$Jobs;", .fieldLink RX4 92 "IdleDispatcher$Jobs" "count" "I", .fieldLink RX4 147 "IdleDispatcher$Jobs" "server" "[I", .methodLink RX4 127 yX4_requireIndex, .static yX4_requireIndex, .initialized RX4, .code yX4_requireIndex cX4_requireIndex 2 none, .classLink RX4 198 "java/lang/IndexOutOfBoundsException", .initialized "java/lang/IndexOutOfBoundsException"] ++ wsX40 ++ wsX30 ++ wsX10 ++ (vx_atS RX4 202 "java/lang/IndexOutOfBoundsException" ["java/lang/RuntimeException", "java/lang/Exception"]).filter goodWord)
def wsX4_waitOf : List Cond := .code yX4_waitOf cX4_waitOf 2 (some .int) :: ([.fieldLink RX4 10 "IdleDispatcher" "state" "LIdleDispatcher$State;", .fieldLink RX4 88 "IdleDispatcher$State" "jobs" "LIdleDispatcher$Jobs;", .fieldLink RX4 92 "IdleDispatcher$Jobs" "count" "I", .fieldLink RX4 150 "IdleDispatcher$Jobs" "wait" "[I", .methodLink RX4 127 yX4_requireIndex, .static yX4_requireIndex, .initialized RX4, .code yX4_requireIndex cX4_requireIndex 2 none, .classLink RX4 198 "java/lang/IndexOutOfBoundsException", .initialized "java/lang/IndexOutOfBoundsException"] ++ wsX40 ++ wsX30 ++ wsX10 ++ (vx_atS RX4 202 "java/lang/IndexOutOfBoundsException" ["java/lang/RuntimeException", "java/lang/Exception"]).filter goodWord)
def wsX4_meanWait : List Cond := .code yX4_meanWait cX4_meanWait 1 (some .double) :: ([.fieldLink RX4 10 "IdleDispatcher" "state" "LIdleDispatcher$State;", .fieldLink RX4 88 "IdleDispatcher$State" "jobs" "LIdleDispatcher$Jobs;", .fieldLink RX4 153 "IdleDispatcher$Jobs" "begun" "I", .fieldLink RX4 156 "IdleDispatcher$Jobs" "waitSum" "I"] ++ wsX40 ++ wsX30 ++ wsX10)
def wsX4_missed : List Cond := .code yX4_missed cX4_missed 1 (some .int) :: ([.fieldLink RX4 10 "IdleDispatcher" "state" "LIdleDispatcher$State;", .fieldLink RX4 88 "IdleDispatcher$State" "jobs" "LIdleDispatcher$Jobs;", .fieldLink RX4 159 "IdleDispatcher$Jobs" "missed" "I"] ++ wsX40 ++ wsX30 ++ wsX10)
def wsX4_now : List Cond := .code yX4_now cX4_now 1 (some .int) :: ([.fieldLink RX4 10 "IdleDispatcher" "state" "LIdleDispatcher$State;", .fieldLink RX4 162 "IdleDispatcher$State" "now" "I"] ++ wsX40 ++ wsX30)
def wsX4_undo : List Cond := .code yX4_undo cX4_undo 2 (some .int) :: ([.classLink RX4 27 "java/lang/IllegalStateException", .initialized "java/lang/IllegalStateException", .fieldLink RX4 20 "IdleDispatcher" "savedCount" "I", .fieldLink RX4 10 "IdleDispatcher" "state" "LIdleDispatcher$State;", .fieldLink RX4 16 "IdleDispatcher" "saved" "[LIdleDispatcher$State;"] ++ wsX40 ++ (vx_atS RX4 31 "java/lang/IllegalStateException" ["java/lang/RuntimeException", "java/lang/Exception"]).filter goodWord)
def wsX4_digest_r1 : List Cond := [Cond.fieldLink RX4 10 "IdleDispatcher" "state" "LIdleDispatcher$State;", Cond.constantLong RX4 167 (2753), Cond.fieldLink RX4 20 "IdleDispatcher" "savedCount" "I", Cond.methodLink RX4 169 yX3_mixAll, Cond.instanceMethod yX3_mixAll, Cond.selects RX3 yX3_mixAll yX3_mixAll, Cond.initialized RX3, Cond.code yX3_mixAll cX3_mixAll 6 (some .long), Cond.fieldLink RX3 9 "IdleDispatcher$State" "now" "I", Cond.fieldLink RX3 15 "IdleDispatcher$State" "random" "J", Cond.fieldLink RX3 19 "IdleDispatcher$State" "joinMode" "I", Cond.fieldLink RX3 22 "IdleDispatcher$State" "reportPeriod" "I", Cond.fieldLink RX3 25 "IdleDispatcher$State" "serverCount" "I", Cond.fieldLink RX3 33 "IdleDispatcher$State" "servers" "[LIdleDispatcher$Server;", Cond.fieldLink RX3 28 "IdleDispatcher$State" "dispatcherCount" "I", Cond.fieldLink RX3 40 "IdleDispatcher$State" "dispatchers" "[LIdleDispatcher$Dispatcher;", Cond.fieldLink RX3 48 "IdleDispatcher$State" "jobs" "LIdleDispatcher$Jobs;", Cond.fieldLink RX3 215 "IdleDispatcher$Jobs" "count" "I", Cond.fieldLink RX3 201 "IdleDispatcher$Jobs" "finished" "I", Cond.fieldLink RX3 218 "IdleDispatcher$Jobs" "waitSum" "I", Cond.fieldLink RX3 159 "IdleDispatcher$Jobs" "missed" "I", Cond.static yX4_mix, Cond.initialized RX4, Cond.code yX4_mix cX4_mix 4 (some .long)]
def wsX4_digest_r2 : List Cond := [Cond.constantLong RX4 203 (31), Cond.methodLink RX3 208 yX2_mixAll, Cond.instanceMethod yX2_mixAll, Cond.selects RX2 yX2_mixAll yX2_mixAll, Cond.initialized RX2, Cond.code yX2_mixAll cX2_mixAll 5 (some .long), Cond.fieldLink RX2 9 "IdleDispatcher$Server" "up" "Z", Cond.fieldLink RX2 15 "IdleDispatcher$Server" "length" "I", Cond.fieldLink RX2 19 "IdleDispatcher$Server" "work" "I", Cond.fieldLink RX2 22 "IdleDispatcher$Server" "registeredAt" "I", Cond.methodLink RX3 212 yX0_mixAll, Cond.instanceMethod yX0_mixAll, Cond.selects RX0 yX0_mixAll yX0_mixAll, Cond.initialized RX0, Cond.code yX0_mixAll cX0_mixAll 7 (some .long), Cond.fieldLink RX0 9 "IdleDispatcher$Dispatcher" "policy" "I", Cond.fieldLink RX0 15 "IdleDispatcher$Dispatcher" "pointer" "I", Cond.fieldLink RX0 18 "IdleDispatcher$Dispatcher" "idleCount" "I", Cond.fieldLink RX0 21 "IdleDispatcher$Dispatcher" "idle" "[I", Cond.fieldLink RX0 25 "IdleDispatcher$Dispatcher" "known" "[I", Cond.methodLink RX4 173 yX4_mix]
def wsX4_digest : List Cond := .code yX4_digest cX4_digest 1 (some .long) :: ((wsX4_digest_r1 ++ wsX4_digest_r2) ++ wsX40 ++ wsX30 ++ wsX10 ++ wsX20 ++ wsX00)
def wsX5_init : List Cond := .code yX5_init cX5_init 1 none :: ([.methodLink RX5 1 objectInit, .instanceMethod objectInit, .code objectInit ⟨#[0xb1]⟩ 1 none, .arrayClass .int, .fieldLink RX5 7 "IdleDispatcherModel" "now" "[I", .fieldLink RX5 13 "IdleDispatcherModel" "history" "[I", .fieldLink RX5 16 "IdleDispatcherModel" "candidates" "[I"] ++ wsX50)
def wsX5_thrown : List Cond := .code yX5_thrown cX5_thrown 1 (some .int) :: ([.fieldLink RX5 19 "IdleDispatcherModel" "thrown" "I"] ++ wsX50)
def wsX5_refuse : List Cond := .code yX5_refuse cX5_refuse 2 (some .int) :: ([.fieldLink RX5 19 "IdleDispatcherModel" "thrown" "I"] ++ wsX50)
def wsX5_in : List Cond := .code yX5_in cX5_in 3 (some .boolean) :: ([])
def wsX5_isServer : List Cond := .code yX5_isServer cX5_isServer 2 (some .boolean) :: ([.fieldLink RX5 7 "IdleDispatcherModel" "now" "[I", .methodLink RX5 23 yX5_in, .static yX5_in, .initialized RX5, .code yX5_in cX5_in 3 (some .boolean)] ++ wsX50)
def wsX5_isDispatcher : List Cond := .code yX5_isDispatcher cX5_isDispatcher 2 (some .boolean) :: ([.fieldLink RX5 7 "IdleDispatcherModel" "now" "[I", .methodLink RX5 23 yX5_in, .static yX5_in, .initialized RX5, .code yX5_in cX5_in 3 (some .boolean)] ++ wsX50)
def wsX5_isJob : List Cond := .code yX5_isJob cX5_isJob 2 (some .boolean) :: ([.fieldLink RX5 7 "IdleDispatcherModel" "now" "[I", .methodLink RX5 23 yX5_in, .static yX5_in, .initialized RX5, .code yX5_in cX5_in 3 (some .boolean)] ++ wsX50)
def wsX5_save : List Cond := .code yX5_save cX5_save 2 none :: ([.fieldLink RX5 27 "IdleDispatcherModel" "saved" "I", .fieldLink RX5 13 "IdleDispatcherModel" "history" "[I", .fieldLink RX5 7 "IdleDispatcherModel" "now" "[I"] ++ wsX50)
def wsX5_draw : List Cond := .code yX5_draw cX5_draw 2 (some .int) :: ([.fieldLink RX5 7 "IdleDispatcherModel" "now" "[I", .constantLong RX5 30 (1103515245), .constantLong RX5 32 (12345), .constantLong RX5 34 (2147483648), .constant RX5 36 (65536)] ++ wsX50)
def wsX5_isUp : List Cond := .code yX5_isUp cX5_isUp 2 (some .boolean) :: ([.fieldLink RX5 7 "IdleDispatcherModel" "now" "[I"] ++ wsX50)
def wsX5_isQueued : List Cond := .code yX5_isQueued cX5_isQueued 3 (some .boolean) :: ([.fieldLink RX5 7 "IdleDispatcherModel" "now" "[I"] ++ wsX50)
def wsX5_lengthOf : List Cond := .code yX5_lengthOf cX5_lengthOf 4 (some .int) :: ([.fieldLink RX5 7 "IdleDispatcherModel" "now" "[I", .methodLink RX5 37 yX5_isQueued, .instanceMethod yX5_isQueued, .selects RX5 yX5_isQueued yX5_isQueued, .initialized RX5, .code yX5_isQueued cX5_isQueued 3 (some .boolean)] ++ wsX50)
def wsX5_workOf : List Cond := .code yX5_workOf cX5_workOf 4 (some .int) :: ([.fieldLink RX5 7 "IdleDispatcherModel" "now" "[I", .methodLink RX5 37 yX5_isQueued, .instanceMethod yX5_isQueued, .selects RX5 yX5_isQueued yX5_isQueued, .initialized RX5, .code yX5_isQueued cX5_isQueued 3 (some .boolean)] ++ wsX50)
def wsX5_firstJob : List Cond := .code yX5_firstJob cX5_firstJob 3 (some .int) :: ([.fieldLink RX5 7 "IdleDispatcherModel" "now" "[I", .methodLink RX5 37 yX5_isQueued, .instanceMethod yX5_isQueued, .selects RX5 yX5_isQueued yX5_isQueued, .initialized RX5, .code yX5_isQueued cX5_isQueued 3 (some .boolean)] ++ wsX50)
def wsX5_listOf : List Cond := .code yX5_listOf cX5_listOf 5 (some .int) :: ([.fieldLink RX5 7 "IdleDispatcherModel" "now" "[I"] ++ wsX50)
def wsX5_register : List Cond := .code yX5_register cX5_register 6 none :: ([.fieldLink RX5 7 "IdleDispatcherModel" "now" "[I", .methodLink RX5 41 yX5_draw, .instanceMethod yX5_draw, .selects RX5 yX5_draw yX5_draw, .initialized RX5, .code yX5_draw cX5_draw 2 (some .int), .constantLong RX5 30 (1103515245), .constantLong RX5 32 (12345), .constantLong RX5 34 (2147483648), .constant RX5 36 (65536)] ++ wsX50)
def wsX5_leave : List Cond := .code yX5_leave cX5_leave 6 none :: ([.fieldLink RX5 7 "IdleDispatcherModel" "now" "[I", .methodLink RX5 45 yX5_listOf, .instanceMethod yX5_listOf, .selects RX5 yX5_listOf yX5_listOf, .initialized RX5, .code yX5_listOf cX5_listOf 5 (some .int)] ++ wsX50)
def wsX5_addServer_r1 : List Cond := [Cond.fieldLink RX5 19 "IdleDispatcherModel" "thrown" "I", Cond.fieldLink RX5 7 "IdleDispatcherModel" "now" "[I", Cond.methodLink RX5 48 yX5_refuse, Cond.instanceMethod yX5_refuse, Cond.selects RX5 yX5_refuse yX5_refuse, Cond.initialized RX5, Cond.code yX5_refuse cX5_refuse 2 (some .int), Cond.methodLink RX5 51 yX5_save, Cond.instanceMethod yX5_save, Cond.selects RX5 yX5_save yX5_save, Cond.code yX5_save cX5_save 2 none, Cond.fieldLink RX5 27 "IdleDispatcherModel" "saved" "I", Cond.fieldLink RX5 13 "IdleDispatcherModel" "history" "[I", Cond.methodLink RX5 54 yX5_register, Cond.instanceMethod yX5_register, Cond.selects RX5 yX5_register yX5_register, Cond.code yX5_register cX5_register 6 none, Cond.methodLink RX5 41 yX5_draw, Cond.instanceMethod yX5_draw, Cond.selects RX5 yX5_draw yX5_draw, Cond.code yX5_draw cX5_draw 2 (some .int), Cond.constantLong RX5 30 (1103515245), Cond.constantLong RX5 32 (12345), Cond.constantLong RX5 34 (2147483648)]
def wsX5_addServer_r2 : List Cond := [Cond.constant RX5 36 (65536)]
def wsX5_addServer : List Cond := .code yX5_addServer cX5_addServer 3 (some .int) :: ((wsX5_addServer_r1 ++ wsX5_addServer_r2) ++ wsX50)
def wsX5_addDispatcher : List Cond := .code yX5_addDispatcher cX5_addDispatcher 3 (some .int) :: ([.fieldLink RX5 19 "IdleDispatcherModel" "thrown" "I", .fieldLink RX5 7 "IdleDispatcherModel" "now" "[I", .methodLink RX5 23 yX5_in, .static yX5_in, .initialized RX5, .code yX5_in cX5_in 3 (some .boolean), .methodLink RX5 48 yX5_refuse, .instanceMethod yX5_refuse, .selects RX5 yX5_refuse yX5_refuse, .code yX5_refuse cX5_refuse 2 (some .int), .methodLink RX5 51 yX5_save, .instanceMethod yX5_save, .selects RX5 yX5_save yX5_save, .code yX5_save cX5_save 2 none, .fieldLink RX5 27 "IdleDispatcherModel" "saved" "I", .fieldLink RX5 13 "IdleDispatcherModel" "history" "[I"] ++ wsX50)
def wsX5_setPolicy : List Cond := .code yX5_setPolicy cX5_setPolicy 4 (some .int) :: ([.fieldLink RX5 19 "IdleDispatcherModel" "thrown" "I", .fieldLink RX5 7 "IdleDispatcherModel" "now" "[I", .methodLink RX5 58 yX5_isDispatcher, .instanceMethod yX5_isDispatcher, .selects RX5 yX5_isDispatcher yX5_isDispatcher, .initialized RX5, .code yX5_isDispatcher cX5_isDispatcher 2 (some .boolean), .methodLink RX5 23 yX5_in, .static yX5_in, .code yX5_in cX5_in 3 (some .boolean), .methodLink RX5 48 yX5_refuse, .instanceMethod yX5_refuse, .selects RX5 yX5_refuse yX5_refuse, .code yX5_refuse cX5_refuse 2 (some .int), .methodLink RX5 51 yX5_save, .instanceMethod yX5_save, .selects RX5 yX5_save yX5_save, .code yX5_save cX5_save 2 none, .fieldLink RX5 27 "IdleDispatcherModel" "saved" "I", .fieldLink RX5 13 "IdleDispatcherModel" "history" "[I"] ++ wsX50)
def wsX5_setJoinMode : List Cond := .code yX5_setJoinMode cX5_setJoinMode 3 (some .int) :: ([.fieldLink RX5 19 "IdleDispatcherModel" "thrown" "I", .fieldLink RX5 7 "IdleDispatcherModel" "now" "[I", .methodLink RX5 23 yX5_in, .static yX5_in, .initialized RX5, .code yX5_in cX5_in 3 (some .boolean), .methodLink RX5 48 yX5_refuse, .instanceMethod yX5_refuse, .selects RX5 yX5_refuse yX5_refuse, .code yX5_refuse cX5_refuse 2 (some .int), .methodLink RX5 51 yX5_save, .instanceMethod yX5_save, .selects RX5 yX5_save yX5_save, .code yX5_save cX5_save 2 none, .fieldLink RX5 27 "IdleDispatcherModel" "saved" "I", .fieldLink RX5 13 "IdleDispatcherModel" "history" "[I"] ++ wsX50)
def wsX5_setReportPeriod : List Cond := .code yX5_setReportPeriod cX5_setReportPeriod 3 (some .int) :: ([.fieldLink RX5 19 "IdleDispatcherModel" "thrown" "I", .fieldLink RX5 7 "IdleDispatcherModel" "now" "[I", .methodLink RX5 23 yX5_in, .static yX5_in, .initialized RX5, .code yX5_in cX5_in 3 (some .boolean), .methodLink RX5 48 yX5_refuse, .instanceMethod yX5_refuse, .selects RX5 yX5_refuse yX5_refuse, .code yX5_refuse cX5_refuse 2 (some .int), .methodLink RX5 51 yX5_save, .instanceMethod yX5_save, .selects RX5 yX5_save yX5_save, .code yX5_save cX5_save 2 none, .fieldLink RX5 27 "IdleDispatcherModel" "saved" "I", .fieldLink RX5 13 "IdleDispatcherModel" "history" "[I"] ++ wsX50)
def wsX5_setRandom : List Cond := .code yX5_setRandom cX5_setRandom 2 (some .int) :: ([.fieldLink RX5 19 "IdleDispatcherModel" "thrown" "I", .constant RX5 62 (999999), .fieldLink RX5 7 "IdleDispatcherModel" "now" "[I", .methodLink RX5 23 yX5_in, .static yX5_in, .initialized RX5, .code yX5_in cX5_in 3 (some .boolean), .methodLink RX5 48 yX5_refuse, .instanceMethod yX5_refuse, .selects RX5 yX5_refuse yX5_refuse, .code yX5_refuse cX5_refuse 2 (some .int), .methodLink RX5 51 yX5_save, .instanceMethod yX5_save, .selects RX5 yX5_save yX5_save, .code yX5_save cX5_save 2 none, .fieldLink RX5 27 "IdleDispatcherModel" "saved" "I", .fieldLink RX5 13 "IdleDispatcherModel" "history" "[I"] ++ wsX50)
def wsX5_setUp_r1 : List Cond := [Cond.fieldLink RX5 19 "IdleDispatcherModel" "thrown" "I", Cond.fieldLink RX5 7 "IdleDispatcherModel" "now" "[I", Cond.methodLink RX5 63 yX5_isServer, Cond.instanceMethod yX5_isServer, Cond.selects RX5 yX5_isServer yX5_isServer, Cond.initialized RX5, Cond.code yX5_isServer cX5_isServer 2 (some .boolean), Cond.methodLink RX5 23 yX5_in, Cond.static yX5_in, Cond.code yX5_in cX5_in 3 (some .boolean), Cond.methodLink RX5 51 yX5_save, Cond.instanceMethod yX5_save, Cond.selects RX5 yX5_save yX5_save, Cond.code yX5_save cX5_save 2 none, Cond.fieldLink RX5 27 "IdleDispatcherModel" "saved" "I", Cond.fieldLink RX5 13 "IdleDispatcherModel" "history" "[I", Cond.methodLink RX5 66 yX5_isUp, Cond.instanceMethod yX5_isUp, Cond.selects RX5 yX5_isUp yX5_isUp, Cond.code yX5_isUp cX5_isUp 2 (some .boolean), Cond.methodLink RX5 69 yX5_lengthOf, Cond.instanceMethod yX5_lengthOf, Cond.selects RX5 yX5_lengthOf yX5_lengthOf, Cond.code yX5_lengthOf cX5_lengthOf 4 (some .int)]
def wsX5_setUp_r2 : List Cond := [Cond.methodLink RX5 37 yX5_isQueued, Cond.instanceMethod yX5_isQueued, Cond.selects RX5 yX5_isQueued yX5_isQueued, Cond.code yX5_isQueued cX5_isQueued 3 (some .boolean), Cond.methodLink RX5 54 yX5_register, Cond.instanceMethod yX5_register, Cond.selects RX5 yX5_register yX5_register, Cond.code yX5_register cX5_register 6 none, Cond.methodLink RX5 41 yX5_draw, Cond.instanceMethod yX5_draw, Cond.selects RX5 yX5_draw yX5_draw, Cond.code yX5_draw cX5_draw 2 (some .int), Cond.constantLong RX5 30 (1103515245), Cond.constantLong RX5 32 (12345), Cond.constantLong RX5 34 (2147483648), Cond.constant RX5 36 (65536), Cond.methodLink RX5 72 yX5_leave, Cond.instanceMethod yX5_leave, Cond.selects RX5 yX5_leave yX5_leave, Cond.code yX5_leave cX5_leave 6 none, Cond.methodLink RX5 45 yX5_listOf, Cond.instanceMethod yX5_listOf, Cond.selects RX5 yX5_listOf yX5_listOf, Cond.code yX5_listOf cX5_listOf 5 (some .int)]
def wsX5_setUp : List Cond := .code yX5_setUp cX5_setUp 4 (some .boolean) :: ((wsX5_setUp_r1 ++ wsX5_setUp_r2) ++ wsX50)
def wsX5_findCandidates : List Cond := .code yX5_findCandidates cX5_findCandidates 3 (some .int) :: ([.fieldLink RX5 7 "IdleDispatcherModel" "now" "[I", .fieldLink RX5 16 "IdleDispatcherModel" "candidates" "[I", .methodLink RX5 66 yX5_isUp, .instanceMethod yX5_isUp, .selects RX5 yX5_isUp yX5_isUp, .initialized RX5, .code yX5_isUp cX5_isUp 2 (some .boolean)] ++ wsX50)
def wsX5_nextInTurn : List Cond := .code yX5_nextInTurn cX5_nextInTurn 4 (some .int) :: ([.fieldLink RX5 16 "IdleDispatcherModel" "candidates" "[I", .fieldLink RX5 7 "IdleDispatcherModel" "now" "[I"] ++ wsX50)
def wsX5_leastKnown : List Cond := .code yX5_leastKnown cX5_leastKnown 6 (some .int) :: ([.fieldLink RX5 16 "IdleDispatcherModel" "candidates" "[I", .fieldLink RX5 7 "IdleDispatcherModel" "now" "[I"] ++ wsX50)
def wsX5_twoChoices : List Cond := .code yX5_twoChoices cX5_twoChoices 4 (some .int) :: ([.fieldLink RX5 16 "IdleDispatcherModel" "candidates" "[I", .methodLink RX5 41 yX5_draw, .instanceMethod yX5_draw, .selects RX5 yX5_draw yX5_draw, .initialized RX5, .code yX5_draw cX5_draw 2 (some .int), .fieldLink RX5 7 "IdleDispatcherModel" "now" "[I", .constantLong RX5 30 (1103515245), .constantLong RX5 32 (12345), .constantLong RX5 34 (2147483648), .constant RX5 36 (65536), .methodLink RX5 69 yX5_lengthOf, .instanceMethod yX5_lengthOf, .selects RX5 yX5_lengthOf yX5_lengthOf, .code yX5_lengthOf cX5_lengthOf 4 (some .int), .methodLink RX5 37 yX5_isQueued, .instanceMethod yX5_isQueued, .selects RX5 yX5_isQueued yX5_isQueued, .code yX5_isQueued cX5_isQueued 3 (some .boolean)] ++ wsX50)
def wsX5_taken_r1 : List Cond := [Cond.fieldLink RX5 7 "IdleDispatcherModel" "now" "[I", Cond.fieldLink RX5 16 "IdleDispatcherModel" "candidates" "[I", Cond.methodLink RX5 75 yX5_nextInTurn, Cond.instanceMethod yX5_nextInTurn, Cond.selects RX5 yX5_nextInTurn yX5_nextInTurn, Cond.initialized RX5, Cond.code yX5_nextInTurn cX5_nextInTurn 4 (some .int), Cond.methodLink RX5 79 yX5_twoChoices, Cond.instanceMethod yX5_twoChoices, Cond.selects RX5 yX5_twoChoices yX5_twoChoices, Cond.code yX5_twoChoices cX5_twoChoices 4 (some .int), Cond.methodLink RX5 41 yX5_draw, Cond.instanceMethod yX5_draw, Cond.selects RX5 yX5_draw yX5_draw, Cond.code yX5_draw cX5_draw 2 (some .int), Cond.constantLong RX5 30 (1103515245), Cond.constantLong RX5 32 (12345), Cond.constantLong RX5 34 (2147483648), Cond.constant RX5 36 (65536), Cond.methodLink RX5 69 yX5_lengthOf, Cond.instanceMethod yX5_lengthOf, Cond.selects RX5 yX5_lengthOf yX5_lengthOf, Cond.code yX5_lengthOf cX5_lengthOf 4 (some .int), Cond.methodLink RX5 37 yX5_isQueued]
def wsX5_taken_r2 : List Cond := [Cond.instanceMethod yX5_isQueued, Cond.selects RX5 yX5_isQueued yX5_isQueued, Cond.code yX5_isQueued cX5_isQueued 3 (some .boolean), Cond.methodLink RX5 82 yX5_leastKnown, Cond.instanceMethod yX5_leastKnown, Cond.selects RX5 yX5_leastKnown yX5_leastKnown, Cond.code yX5_leastKnown cX5_leastKnown 6 (some .int)]
def wsX5_taken : List Cond := .code yX5_taken cX5_taken 5 (some .int) :: ((wsX5_taken_r1 ++ wsX5_taken_r2) ++ wsX50)
def wsX5_isSomeIdle : List Cond := .code yX5_isSomeIdle cX5_isSomeIdle 4 (some .boolean) :: ([.fieldLink RX5 16 "IdleDispatcherModel" "candidates" "[I", .methodLink RX5 69 yX5_lengthOf, .instanceMethod yX5_lengthOf, .selects RX5 yX5_lengthOf yX5_lengthOf, .initialized RX5, .code yX5_lengthOf cX5_lengthOf 4 (some .int), .fieldLink RX5 7 "IdleDispatcherModel" "now" "[I", .methodLink RX5 37 yX5_isQueued, .instanceMethod yX5_isQueued, .selects RX5 yX5_isQueued yX5_isQueued, .code yX5_isQueued cX5_isQueued 3 (some .boolean)] ++ wsX50)
def wsX5_submit_r1 : List Cond := [Cond.fieldLink RX5 19 "IdleDispatcherModel" "thrown" "I", Cond.fieldLink RX5 7 "IdleDispatcherModel" "now" "[I", Cond.methodLink RX5 58 yX5_isDispatcher, Cond.instanceMethod yX5_isDispatcher, Cond.selects RX5 yX5_isDispatcher yX5_isDispatcher, Cond.initialized RX5, Cond.code yX5_isDispatcher cX5_isDispatcher 2 (some .boolean), Cond.methodLink RX5 23 yX5_in, Cond.static yX5_in, Cond.code yX5_in cX5_in 3 (some .boolean), Cond.methodLink RX5 48 yX5_refuse, Cond.instanceMethod yX5_refuse, Cond.selects RX5 yX5_refuse yX5_refuse, Cond.code yX5_refuse cX5_refuse 2 (some .int), Cond.methodLink RX5 85 yX5_findCandidates, Cond.instanceMethod yX5_findCandidates, Cond.selects RX5 yX5_findCandidates yX5_findCandidates, Cond.code yX5_findCandidates cX5_findCandidates 3 (some .int), Cond.fieldLink RX5 16 "IdleDispatcherModel" "candidates" "[I", Cond.methodLink RX5 66 yX5_isUp, Cond.instanceMethod yX5_isUp, Cond.selects RX5 yX5_isUp yX5_isUp, Cond.code yX5_isUp cX5_isUp 2 (some .boolean), Cond.methodLink RX5 51 yX5_save]
def wsX5_submit_r2 : List Cond := [Cond.instanceMethod yX5_save, Cond.selects RX5 yX5_save yX5_save, Cond.code yX5_save cX5_save 2 none, Cond.fieldLink RX5 27 "IdleDispatcherModel" "saved" "I", Cond.fieldLink RX5 13 "IdleDispatcherModel" "history" "[I", Cond.methodLink RX5 89 yX5_taken, Cond.instanceMethod yX5_taken, Cond.selects RX5 yX5_taken yX5_taken, Cond.code yX5_taken cX5_taken 5 (some .int), Cond.methodLink RX5 75 yX5_nextInTurn, Cond.instanceMethod yX5_nextInTurn, Cond.selects RX5 yX5_nextInTurn yX5_nextInTurn, Cond.code yX5_nextInTurn cX5_nextInTurn 4 (some .int), Cond.methodLink RX5 79 yX5_twoChoices, Cond.instanceMethod yX5_twoChoices, Cond.selects RX5 yX5_twoChoices yX5_twoChoices, Cond.code yX5_twoChoices cX5_twoChoices 4 (some .int), Cond.methodLink RX5 41 yX5_draw, Cond.instanceMethod yX5_draw, Cond.selects RX5 yX5_draw yX5_draw, Cond.code yX5_draw cX5_draw 2 (some .int), Cond.constantLong RX5 30 (1103515245), Cond.constantLong RX5 32 (12345), Cond.constantLong RX5 34 (2147483648)]
def wsX5_submit_r3 : List Cond := [Cond.constant RX5 36 (65536), Cond.methodLink RX5 69 yX5_lengthOf, Cond.instanceMethod yX5_lengthOf, Cond.selects RX5 yX5_lengthOf yX5_lengthOf, Cond.code yX5_lengthOf cX5_lengthOf 4 (some .int), Cond.methodLink RX5 37 yX5_isQueued, Cond.instanceMethod yX5_isQueued, Cond.selects RX5 yX5_isQueued yX5_isQueued, Cond.code yX5_isQueued cX5_isQueued 3 (some .boolean), Cond.methodLink RX5 82 yX5_leastKnown, Cond.instanceMethod yX5_leastKnown, Cond.selects RX5 yX5_leastKnown yX5_leastKnown, Cond.code yX5_leastKnown cX5_leastKnown 6 (some .int), Cond.methodLink RX5 92 yX5_isSomeIdle, Cond.instanceMethod yX5_isSomeIdle, Cond.selects RX5 yX5_isSomeIdle yX5_isSomeIdle, Cond.code yX5_isSomeIdle cX5_isSomeIdle 4 (some .boolean), Cond.methodLink RX5 72 yX5_leave, Cond.instanceMethod yX5_leave, Cond.selects RX5 yX5_leave yX5_leave, Cond.code yX5_leave cX5_leave 6 none, Cond.methodLink RX5 45 yX5_listOf, Cond.instanceMethod yX5_listOf, Cond.selects RX5 yX5_listOf yX5_listOf]
def wsX5_submit_r4 : List Cond := [Cond.code yX5_listOf cX5_listOf 5 (some .int)]
def wsX5_submit : List Cond := .code yX5_submit cX5_submit 7 (some .int) :: ((wsX5_submit_r1 ++ (wsX5_submit_r2 ++ (wsX5_submit_r3 ++ wsX5_submit_r4))) ++ wsX50)
def wsX5_serve_r1 : List Cond := [Cond.fieldLink RX5 7 "IdleDispatcherModel" "now" "[I", Cond.methodLink RX5 95 yX5_firstJob, Cond.instanceMethod yX5_firstJob, Cond.selects RX5 yX5_firstJob yX5_firstJob, Cond.initialized RX5, Cond.code yX5_firstJob cX5_firstJob 3 (some .int), Cond.methodLink RX5 37 yX5_isQueued, Cond.instanceMethod yX5_isQueued, Cond.selects RX5 yX5_isQueued yX5_isQueued, Cond.code yX5_isQueued cX5_isQueued 3 (some .boolean), Cond.methodLink RX5 66 yX5_isUp, Cond.instanceMethod yX5_isUp, Cond.selects RX5 yX5_isUp yX5_isUp, Cond.code yX5_isUp cX5_isUp 2 (some .boolean), Cond.methodLink RX5 54 yX5_register, Cond.instanceMethod yX5_register, Cond.selects RX5 yX5_register yX5_register, Cond.code yX5_register cX5_register 6 none, Cond.methodLink RX5 41 yX5_draw, Cond.instanceMethod yX5_draw, Cond.selects RX5 yX5_draw yX5_draw, Cond.code yX5_draw cX5_draw 2 (some .int), Cond.constantLong RX5 30 (1103515245), Cond.constantLong RX5 32 (12345)]
def wsX5_serve_r2 : List Cond := [Cond.constantLong RX5 34 (2147483648), Cond.constant RX5 36 (65536)]
def wsX5_serve : List Cond := .code yX5_serve cX5_serve 4 none :: ((wsX5_serve_r1 ++ wsX5_serve_r2) ++ wsX50)
def wsX5_report : List Cond := .code yX5_report cX5_report 4 none :: ([.fieldLink RX5 7 "IdleDispatcherModel" "now" "[I", .methodLink RX5 69 yX5_lengthOf, .instanceMethod yX5_lengthOf, .selects RX5 yX5_lengthOf yX5_lengthOf, .initialized RX5, .code yX5_lengthOf cX5_lengthOf 4 (some .int), .methodLink RX5 37 yX5_isQueued, .instanceMethod yX5_isQueued, .selects RX5 yX5_isQueued yX5_isQueued, .code yX5_isQueued cX5_isQueued 3 (some .boolean)] ++ wsX50)
def wsX5_tick_r1 : List Cond := [Cond.fieldLink RX5 19 "IdleDispatcherModel" "thrown" "I", Cond.fieldLink RX5 7 "IdleDispatcherModel" "now" "[I", Cond.methodLink RX5 23 yX5_in, Cond.static yX5_in, Cond.initialized RX5, Cond.code yX5_in cX5_in 3 (some .boolean), Cond.methodLink RX5 48 yX5_refuse, Cond.instanceMethod yX5_refuse, Cond.selects RX5 yX5_refuse yX5_refuse, Cond.code yX5_refuse cX5_refuse 2 (some .int), Cond.methodLink RX5 51 yX5_save, Cond.instanceMethod yX5_save, Cond.selects RX5 yX5_save yX5_save, Cond.code yX5_save cX5_save 2 none, Cond.fieldLink RX5 27 "IdleDispatcherModel" "saved" "I", Cond.fieldLink RX5 13 "IdleDispatcherModel" "history" "[I", Cond.methodLink RX5 98 yX5_serve, Cond.instanceMethod yX5_serve, Cond.selects RX5 yX5_serve yX5_serve, Cond.code yX5_serve cX5_serve 4 none, Cond.methodLink RX5 95 yX5_firstJob, Cond.instanceMethod yX5_firstJob, Cond.selects RX5 yX5_firstJob yX5_firstJob, Cond.code yX5_firstJob cX5_firstJob 3 (some .int)]
def wsX5_tick_r2 : List Cond := [Cond.methodLink RX5 37 yX5_isQueued, Cond.instanceMethod yX5_isQueued, Cond.selects RX5 yX5_isQueued yX5_isQueued, Cond.code yX5_isQueued cX5_isQueued 3 (some .boolean), Cond.methodLink RX5 66 yX5_isUp, Cond.instanceMethod yX5_isUp, Cond.selects RX5 yX5_isUp yX5_isUp, Cond.code yX5_isUp cX5_isUp 2 (some .boolean), Cond.methodLink RX5 54 yX5_register, Cond.instanceMethod yX5_register, Cond.selects RX5 yX5_register yX5_register, Cond.code yX5_register cX5_register 6 none, Cond.methodLink RX5 41 yX5_draw, Cond.instanceMethod yX5_draw, Cond.selects RX5 yX5_draw yX5_draw, Cond.code yX5_draw cX5_draw 2 (some .int), Cond.constantLong RX5 30 (1103515245), Cond.constantLong RX5 32 (12345), Cond.constantLong RX5 34 (2147483648), Cond.constant RX5 36 (65536), Cond.methodLink RX5 101 yX5_report, Cond.instanceMethod yX5_report, Cond.selects RX5 yX5_report yX5_report, Cond.code yX5_report cX5_report 4 none]
def wsX5_tick_r3 : List Cond := [Cond.methodLink RX5 69 yX5_lengthOf, Cond.instanceMethod yX5_lengthOf, Cond.selects RX5 yX5_lengthOf yX5_lengthOf, Cond.code yX5_lengthOf cX5_lengthOf 4 (some .int)]
def wsX5_tick : List Cond := .code yX5_tick cX5_tick 5 (some .int) :: ((wsX5_tick_r1 ++ (wsX5_tick_r2 ++ wsX5_tick_r3)) ++ wsX50)
def wsX5_length : List Cond := .code yX5_length cX5_length 2 (some .int) :: ([.fieldLink RX5 19 "IdleDispatcherModel" "thrown" "I", .methodLink RX5 63 yX5_isServer, .instanceMethod yX5_isServer, .selects RX5 yX5_isServer yX5_isServer, .initialized RX5, .code yX5_isServer cX5_isServer 2 (some .boolean), .fieldLink RX5 7 "IdleDispatcherModel" "now" "[I", .methodLink RX5 23 yX5_in, .static yX5_in, .code yX5_in cX5_in 3 (some .boolean), .methodLink RX5 69 yX5_lengthOf, .instanceMethod yX5_lengthOf, .selects RX5 yX5_lengthOf yX5_lengthOf, .code yX5_lengthOf cX5_lengthOf 4 (some .int), .methodLink RX5 37 yX5_isQueued, .instanceMethod yX5_isQueued, .selects RX5 yX5_isQueued yX5_isQueued, .code yX5_isQueued cX5_isQueued 3 (some .boolean), .methodLink RX5 48 yX5_refuse, .instanceMethod yX5_refuse, .selects RX5 yX5_refuse yX5_refuse, .code yX5_refuse cX5_refuse 2 (some .int)] ++ wsX50)
def wsX5_work : List Cond := .code yX5_work cX5_work 2 (some .int) :: ([.fieldLink RX5 19 "IdleDispatcherModel" "thrown" "I", .methodLink RX5 63 yX5_isServer, .instanceMethod yX5_isServer, .selects RX5 yX5_isServer yX5_isServer, .initialized RX5, .code yX5_isServer cX5_isServer 2 (some .boolean), .fieldLink RX5 7 "IdleDispatcherModel" "now" "[I", .methodLink RX5 23 yX5_in, .static yX5_in, .code yX5_in cX5_in 3 (some .boolean), .methodLink RX5 104 yX5_workOf, .instanceMethod yX5_workOf, .selects RX5 yX5_workOf yX5_workOf, .code yX5_workOf cX5_workOf 4 (some .int), .methodLink RX5 37 yX5_isQueued, .instanceMethod yX5_isQueued, .selects RX5 yX5_isQueued yX5_isQueued, .code yX5_isQueued cX5_isQueued 3 (some .boolean), .methodLink RX5 48 yX5_refuse, .instanceMethod yX5_refuse, .selects RX5 yX5_refuse yX5_refuse, .code yX5_refuse cX5_refuse 2 (some .int)] ++ wsX50)
def wsX5_registeredAt : List Cond := .code yX5_registeredAt cX5_registeredAt 2 (some .int) :: ([.fieldLink RX5 19 "IdleDispatcherModel" "thrown" "I", .methodLink RX5 63 yX5_isServer, .instanceMethod yX5_isServer, .selects RX5 yX5_isServer yX5_isServer, .initialized RX5, .code yX5_isServer cX5_isServer 2 (some .boolean), .fieldLink RX5 7 "IdleDispatcherModel" "now" "[I", .methodLink RX5 23 yX5_in, .static yX5_in, .code yX5_in cX5_in 3 (some .boolean), .methodLink RX5 45 yX5_listOf, .instanceMethod yX5_listOf, .selects RX5 yX5_listOf yX5_listOf, .code yX5_listOf cX5_listOf 5 (some .int), .methodLink RX5 48 yX5_refuse, .instanceMethod yX5_refuse, .selects RX5 yX5_refuse yX5_refuse, .code yX5_refuse cX5_refuse 2 (some .int)] ++ wsX50)
def wsX5_idleCount : List Cond := .code yX5_idleCount cX5_idleCount 2 (some .int) :: ([.fieldLink RX5 19 "IdleDispatcherModel" "thrown" "I", .fieldLink RX5 7 "IdleDispatcherModel" "now" "[I", .methodLink RX5 58 yX5_isDispatcher, .instanceMethod yX5_isDispatcher, .selects RX5 yX5_isDispatcher yX5_isDispatcher, .initialized RX5, .code yX5_isDispatcher cX5_isDispatcher 2 (some .boolean), .methodLink RX5 23 yX5_in, .static yX5_in, .code yX5_in cX5_in 3 (some .boolean), .methodLink RX5 48 yX5_refuse, .instanceMethod yX5_refuse, .selects RX5 yX5_refuse yX5_refuse, .code yX5_refuse cX5_refuse 2 (some .int)] ++ wsX50)
def wsX5_idleAt : List Cond := .code yX5_idleAt cX5_idleAt 3 (some .int) :: ([.fieldLink RX5 19 "IdleDispatcherModel" "thrown" "I", .fieldLink RX5 7 "IdleDispatcherModel" "now" "[I", .methodLink RX5 58 yX5_isDispatcher, .instanceMethod yX5_isDispatcher, .selects RX5 yX5_isDispatcher yX5_isDispatcher, .initialized RX5, .code yX5_isDispatcher cX5_isDispatcher 2 (some .boolean), .methodLink RX5 23 yX5_in, .static yX5_in, .code yX5_in cX5_in 3 (some .boolean), .methodLink RX5 48 yX5_refuse, .instanceMethod yX5_refuse, .selects RX5 yX5_refuse yX5_refuse, .code yX5_refuse cX5_refuse 2 (some .int)] ++ wsX50)
def wsX5_knownLength : List Cond := .code yX5_knownLength cX5_knownLength 3 (some .int) :: ([.fieldLink RX5 19 "IdleDispatcherModel" "thrown" "I", .fieldLink RX5 7 "IdleDispatcherModel" "now" "[I", .methodLink RX5 58 yX5_isDispatcher, .instanceMethod yX5_isDispatcher, .selects RX5 yX5_isDispatcher yX5_isDispatcher, .initialized RX5, .code yX5_isDispatcher cX5_isDispatcher 2 (some .boolean), .methodLink RX5 23 yX5_in, .static yX5_in, .code yX5_in cX5_in 3 (some .boolean), .methodLink RX5 63 yX5_isServer, .instanceMethod yX5_isServer, .selects RX5 yX5_isServer yX5_isServer, .code yX5_isServer cX5_isServer 2 (some .boolean), .methodLink RX5 48 yX5_refuse, .instanceMethod yX5_refuse, .selects RX5 yX5_refuse yX5_refuse, .code yX5_refuse cX5_refuse 2 (some .int)] ++ wsX50)
def wsX5_sumOfLengths : List Cond := .code yX5_sumOfLengths cX5_sumOfLengths 4 (some .int) :: ([.fieldLink RX5 16 "IdleDispatcherModel" "candidates" "[I", .methodLink RX5 69 yX5_lengthOf, .instanceMethod yX5_lengthOf, .selects RX5 yX5_lengthOf yX5_lengthOf, .initialized RX5, .code yX5_lengthOf cX5_lengthOf 4 (some .int), .fieldLink RX5 7 "IdleDispatcherModel" "now" "[I", .methodLink RX5 37 yX5_isQueued, .instanceMethod yX5_isQueued, .selects RX5 yX5_isQueued yX5_isQueued, .code yX5_isQueued cX5_isQueued 3 (some .boolean)] ++ wsX50)
def wsX5_sumOfLesser : List Cond := .code yX5_sumOfLesser cX5_sumOfLesser 7 (some .int) :: ([.fieldLink RX5 16 "IdleDispatcherModel" "candidates" "[I", .methodLink RX5 69 yX5_lengthOf, .instanceMethod yX5_lengthOf, .selects RX5 yX5_lengthOf yX5_lengthOf, .initialized RX5, .code yX5_lengthOf cX5_lengthOf 4 (some .int), .fieldLink RX5 7 "IdleDispatcherModel" "now" "[I", .methodLink RX5 37 yX5_isQueued, .instanceMethod yX5_isQueued, .selects RX5 yX5_isQueued yX5_isQueued, .code yX5_isQueued cX5_isQueued 3 (some .boolean)] ++ wsX50)
def wsX5_common : List Cond := .code yX5_common cX5_common 5 (some .int) :: ([])
def wsX5_expected_r1 : List Cond := [Cond.fieldLink RX5 7 "IdleDispatcherModel" "now" "[I", Cond.methodLink RX5 107 yX5_sumOfLengths, Cond.instanceMethod yX5_sumOfLengths, Cond.selects RX5 yX5_sumOfLengths yX5_sumOfLengths, Cond.initialized RX5, Cond.code yX5_sumOfLengths cX5_sumOfLengths 4 (some .int), Cond.fieldLink RX5 16 "IdleDispatcherModel" "candidates" "[I", Cond.methodLink RX5 69 yX5_lengthOf, Cond.instanceMethod yX5_lengthOf, Cond.selects RX5 yX5_lengthOf yX5_lengthOf, Cond.code yX5_lengthOf cX5_lengthOf 4 (some .int), Cond.methodLink RX5 37 yX5_isQueued, Cond.instanceMethod yX5_isQueued, Cond.selects RX5 yX5_isQueued yX5_isQueued, Cond.code yX5_isQueued cX5_isQueued 3 (some .boolean), Cond.methodLink RX5 110 yX5_sumOfLesser, Cond.instanceMethod yX5_sumOfLesser, Cond.selects RX5 yX5_sumOfLesser yX5_sumOfLesser, Cond.code yX5_sumOfLesser cX5_sumOfLesser 7 (some .int), Cond.methodLink RX5 75 yX5_nextInTurn, Cond.instanceMethod yX5_nextInTurn, Cond.selects RX5 yX5_nextInTurn yX5_nextInTurn, Cond.code yX5_nextInTurn cX5_nextInTurn 4 (some .int), Cond.methodLink RX5 82 yX5_leastKnown]
def wsX5_expected_r2 : List Cond := [Cond.instanceMethod yX5_leastKnown, Cond.selects RX5 yX5_leastKnown yX5_leastKnown, Cond.code yX5_leastKnown cX5_leastKnown 6 (some .int), Cond.methodLink RX5 113 yX5_common, Cond.static yX5_common, Cond.code yX5_common cX5_common 5 (some .int)]
def wsX5_expected : List Cond := .code yX5_expected cX5_expected 8 (some .int) :: ((wsX5_expected_r1 ++ wsX5_expected_r2) ++ wsX50)
def wsX5_expectedLength_r1 : List Cond := [Cond.fieldLink RX5 19 "IdleDispatcherModel" "thrown" "I", Cond.methodLink RX5 58 yX5_isDispatcher, Cond.instanceMethod yX5_isDispatcher, Cond.selects RX5 yX5_isDispatcher yX5_isDispatcher, Cond.initialized RX5, Cond.code yX5_isDispatcher cX5_isDispatcher 2 (some .boolean), Cond.fieldLink RX5 7 "IdleDispatcherModel" "now" "[I", Cond.methodLink RX5 23 yX5_in, Cond.static yX5_in, Cond.code yX5_in cX5_in 3 (some .boolean), Cond.methodLink RX5 48 yX5_refuse, Cond.instanceMethod yX5_refuse, Cond.selects RX5 yX5_refuse yX5_refuse, Cond.code yX5_refuse cX5_refuse 2 (some .int), Cond.methodLink RX5 85 yX5_findCandidates, Cond.instanceMethod yX5_findCandidates, Cond.selects RX5 yX5_findCandidates yX5_findCandidates, Cond.code yX5_findCandidates cX5_findCandidates 3 (some .int), Cond.fieldLink RX5 16 "IdleDispatcherModel" "candidates" "[I", Cond.methodLink RX5 66 yX5_isUp, Cond.instanceMethod yX5_isUp, Cond.selects RX5 yX5_isUp yX5_isUp, Cond.code yX5_isUp cX5_isUp 2 (some .boolean), Cond.methodLink RX5 116 yX5_expected]
def wsX5_expectedLength_r2 : List Cond := [Cond.instanceMethod yX5_expected, Cond.selects RX5 yX5_expected yX5_expected, Cond.code yX5_expected cX5_expected 8 (some .int), Cond.methodLink RX5 107 yX5_sumOfLengths, Cond.instanceMethod yX5_sumOfLengths, Cond.selects RX5 yX5_sumOfLengths yX5_sumOfLengths, Cond.code yX5_sumOfLengths cX5_sumOfLengths 4 (some .int), Cond.methodLink RX5 69 yX5_lengthOf, Cond.instanceMethod yX5_lengthOf, Cond.selects RX5 yX5_lengthOf yX5_lengthOf, Cond.code yX5_lengthOf cX5_lengthOf 4 (some .int), Cond.methodLink RX5 37 yX5_isQueued, Cond.instanceMethod yX5_isQueued, Cond.selects RX5 yX5_isQueued yX5_isQueued, Cond.code yX5_isQueued cX5_isQueued 3 (some .boolean), Cond.methodLink RX5 110 yX5_sumOfLesser, Cond.instanceMethod yX5_sumOfLesser, Cond.selects RX5 yX5_sumOfLesser yX5_sumOfLesser, Cond.code yX5_sumOfLesser cX5_sumOfLesser 7 (some .int), Cond.methodLink RX5 75 yX5_nextInTurn, Cond.instanceMethod yX5_nextInTurn, Cond.selects RX5 yX5_nextInTurn yX5_nextInTurn, Cond.code yX5_nextInTurn cX5_nextInTurn 4 (some .int), Cond.methodLink RX5 82 yX5_leastKnown]
def wsX5_expectedLength_r3 : List Cond := [Cond.instanceMethod yX5_leastKnown, Cond.selects RX5 yX5_leastKnown yX5_leastKnown, Cond.code yX5_leastKnown cX5_leastKnown 6 (some .int), Cond.methodLink RX5 113 yX5_common, Cond.static yX5_common, Cond.code yX5_common cX5_common 5 (some .int)]
def wsX5_expectedLength : List Cond := .code yX5_expectedLength cX5_expectedLength 4 (some .int) :: ((wsX5_expectedLength_r1 ++ (wsX5_expectedLength_r2 ++ wsX5_expectedLength_r3)) ++ wsX50)
def wsX5_submitted : List Cond := .code yX5_submitted cX5_submitted 1 (some .int) :: ([.fieldLink RX5 19 "IdleDispatcherModel" "thrown" "I", .fieldLink RX5 7 "IdleDispatcherModel" "now" "[I"] ++ wsX50)
def wsX5_finished : List Cond := .code yX5_finished cX5_finished 1 (some .int) :: ([.fieldLink RX5 19 "IdleDispatcherModel" "thrown" "I", .fieldLink RX5 7 "IdleDispatcherModel" "now" "[I"] ++ wsX50)
def wsX5_serverOf : List Cond := .code yX5_serverOf cX5_serverOf 2 (some .int) :: ([.fieldLink RX5 19 "IdleDispatcherModel" "thrown" "I", .fieldLink RX5 7 "IdleDispatcherModel" "now" "[I", .methodLink RX5 120 yX5_isJob, .instanceMethod yX5_isJob, .selects RX5 yX5_isJob yX5_isJob, .initialized RX5, .code yX5_isJob cX5_isJob 2 (some .boolean), .methodLink RX5 23 yX5_in, .static yX5_in, .code yX5_in cX5_in 3 (some .boolean), .methodLink RX5 48 yX5_refuse, .instanceMethod yX5_refuse, .selects RX5 yX5_refuse yX5_refuse, .code yX5_refuse cX5_refuse 2 (some .int)] ++ wsX50)
def wsX5_waitOf : List Cond := .code yX5_waitOf cX5_waitOf 2 (some .int) :: ([.fieldLink RX5 19 "IdleDispatcherModel" "thrown" "I", .fieldLink RX5 7 "IdleDispatcherModel" "now" "[I", .methodLink RX5 120 yX5_isJob, .instanceMethod yX5_isJob, .selects RX5 yX5_isJob yX5_isJob, .initialized RX5, .code yX5_isJob cX5_isJob 2 (some .boolean), .methodLink RX5 23 yX5_in, .static yX5_in, .code yX5_in cX5_in 3 (some .boolean), .methodLink RX5 48 yX5_refuse, .instanceMethod yX5_refuse, .selects RX5 yX5_refuse yX5_refuse, .code yX5_refuse cX5_refuse 2 (some .int)] ++ wsX50)
def wsX5_waits : List Cond := .code yX5_waits cX5_waits 3 (some .int) :: ([.fieldLink RX5 7 "IdleDispatcherModel" "now" "[I"] ++ wsX50)
def wsX5_begun : List Cond := .code yX5_begun cX5_begun 3 (some .int) :: ([.fieldLink RX5 7 "IdleDispatcherModel" "now" "[I"] ++ wsX50)
def wsX5_meanWait : List Cond := .code yX5_meanWait cX5_meanWait 2 (some .double) :: ([.fieldLink RX5 19 "IdleDispatcherModel" "thrown" "I", .methodLink RX5 123 yX5_begun, .instanceMethod yX5_begun, .selects RX5 yX5_begun yX5_begun, .initialized RX5, .code yX5_begun cX5_begun 3 (some .int), .fieldLink RX5 7 "IdleDispatcherModel" "now" "[I", .methodLink RX5 126 yX5_waits, .instanceMethod yX5_waits, .selects RX5 yX5_waits yX5_waits, .code yX5_waits cX5_waits 3 (some .int)] ++ wsX50)
def wsX5_missed : List Cond := .code yX5_missed cX5_missed 1 (some .int) :: ([.fieldLink RX5 19 "IdleDispatcherModel" "thrown" "I", .fieldLink RX5 7 "IdleDispatcherModel" "now" "[I"] ++ wsX50)
def wsX5_now : List Cond := .code yX5_now cX5_now 1 (some .int) :: ([.fieldLink RX5 19 "IdleDispatcherModel" "thrown" "I", .fieldLink RX5 7 "IdleDispatcherModel" "now" "[I"] ++ wsX50)
def wsX5_undo : List Cond := .code yX5_undo cX5_undo 2 (some .int) :: ([.fieldLink RX5 19 "IdleDispatcherModel" "thrown" "I", .fieldLink RX5 27 "IdleDispatcherModel" "saved" "I", .fieldLink RX5 7 "IdleDispatcherModel" "now" "[I", .fieldLink RX5 13 "IdleDispatcherModel" "history" "[I", .methodLink RX5 48 yX5_refuse, .instanceMethod yX5_refuse, .selects RX5 yX5_refuse yX5_refuse, .initialized RX5, .code yX5_refuse cX5_refuse 2 (some .int)] ++ wsX50)
def wsX5_mix : List Cond := .code yX5_mix cX5_mix 2 none :: ([.constantLong RX5 129 (31), .fieldLink RX5 131 "IdleDispatcherModel" "hash" "J"] ++ wsX50)
def wsX5_mixServers : List Cond := .code yX5_mixServers cX5_mixServers 2 none :: ([.fieldLink RX5 7 "IdleDispatcherModel" "now" "[I", .methodLink RX5 135 yX5_mix, .instanceMethod yX5_mix, .selects RX5 yX5_mix yX5_mix, .initialized RX5, .code yX5_mix cX5_mix 2 none, .constantLong RX5 129 (31), .fieldLink RX5 131 "IdleDispatcherModel" "hash" "J", .methodLink RX5 69 yX5_lengthOf, .instanceMethod yX5_lengthOf, .selects RX5 yX5_lengthOf yX5_lengthOf, .code yX5_lengthOf cX5_lengthOf 4 (some .int), .methodLink RX5 37 yX5_isQueued, .instanceMethod yX5_isQueued, .selects RX5 yX5_isQueued yX5_isQueued, .code yX5_isQueued cX5_isQueued 3 (some .boolean), .methodLink RX5 104 yX5_workOf, .instanceMethod yX5_workOf, .selects RX5 yX5_workOf yX5_workOf, .code yX5_workOf cX5_workOf 4 (some .int), .methodLink RX5 45 yX5_listOf, .instanceMethod yX5_listOf, .selects RX5 yX5_listOf yX5_listOf, .code yX5_listOf cX5_listOf 5 (some .int)] ++ wsX50)
def wsX5_mixDispatchers : List Cond := .code yX5_mixDispatchers cX5_mixDispatchers 3 none :: ([.fieldLink RX5 7 "IdleDispatcherModel" "now" "[I", .methodLink RX5 135 yX5_mix, .instanceMethod yX5_mix, .selects RX5 yX5_mix yX5_mix, .initialized RX5, .code yX5_mix cX5_mix 2 none, .constantLong RX5 129 (31), .fieldLink RX5 131 "IdleDispatcherModel" "hash" "J"] ++ wsX50)
def wsX5_digest_r1 : List Cond := [Cond.fieldLink RX5 19 "IdleDispatcherModel" "thrown" "I", Cond.constantLong RX5 138 (2753), Cond.fieldLink RX5 131 "IdleDispatcherModel" "hash" "J", Cond.fieldLink RX5 7 "IdleDispatcherModel" "now" "[I", Cond.fieldLink RX5 27 "IdleDispatcherModel" "saved" "I", Cond.methodLink RX5 135 yX5_mix, Cond.instanceMethod yX5_mix, Cond.selects RX5 yX5_mix yX5_mix, Cond.initialized RX5, Cond.code yX5_mix cX5_mix 2 none, Cond.constantLong RX5 129 (31), Cond.methodLink RX5 140 yX5_mixServers, Cond.instanceMethod yX5_mixServers, Cond.selects RX5 yX5_mixServers yX5_mixServers, Cond.code yX5_mixServers cX5_mixServers 2 none, Cond.methodLink RX5 69 yX5_lengthOf, Cond.instanceMethod yX5_lengthOf, Cond.selects RX5 yX5_lengthOf yX5_lengthOf, Cond.code yX5_lengthOf cX5_lengthOf 4 (some .int), Cond.methodLink RX5 37 yX5_isQueued, Cond.instanceMethod yX5_isQueued, Cond.selects RX5 yX5_isQueued yX5_isQueued, Cond.code yX5_isQueued cX5_isQueued 3 (some .boolean), Cond.methodLink RX5 104 yX5_workOf]
def wsX5_digest_r2 : List Cond := [Cond.instanceMethod yX5_workOf, Cond.selects RX5 yX5_workOf yX5_workOf, Cond.code yX5_workOf cX5_workOf 4 (some .int), Cond.methodLink RX5 45 yX5_listOf, Cond.instanceMethod yX5_listOf, Cond.selects RX5 yX5_listOf yX5_listOf, Cond.code yX5_listOf cX5_listOf 5 (some .int), Cond.methodLink RX5 143 yX5_mixDispatchers, Cond.instanceMethod yX5_mixDispatchers, Cond.selects RX5 yX5_mixDispatchers yX5_mixDispatchers, Cond.code yX5_mixDispatchers cX5_mixDispatchers 3 none, Cond.methodLink RX5 126 yX5_waits, Cond.instanceMethod yX5_waits, Cond.selects RX5 yX5_waits yX5_waits, Cond.code yX5_waits cX5_waits 3 (some .int)]
def wsX5_digest : List Cond := .code yX5_digest cX5_digest 1 (some .long) :: ((wsX5_digest_r1 ++ wsX5_digest_r2) ++ wsX50)
def wsJ9_min_7cf53 : List Cond := .code yJ9_min_7cf53 cJ9_min_7cf53 2 (some .int) :: ([])
def wsL_addServer_r1 : List Cond := [Cond.classLink RL 13 "java/lang/IllegalStateException", Cond.methodLink RL 7 yX4_addServer, Cond.instanceMethod yX4_addServer, Cond.selects RX4 yX4_addServer yX4_addServer, Cond.initialized RX4, Cond.code yX4_addServer cX4_addServer 1 (some .int), Cond.classLink RX4 27 "java/lang/IllegalStateException", Cond.initialized "java/lang/IllegalStateException", Cond.fieldLink RX4 10 "IdleDispatcher" "state" "LIdleDispatcher$State;", Cond.fieldLink RX4 24 "IdleDispatcher$State" "serverCount" "I", Cond.methodLink RX4 34 yX4_save, Cond.instanceMethod yX4_save, Cond.selects RX4 yX4_save yX4_save, Cond.code yX4_save cX4_save 1 none, Cond.fieldLink RX4 20 "IdleDispatcher" "savedCount" "I", Cond.fieldLink RX4 16 "IdleDispatcher" "saved" "[LIdleDispatcher$State;", Cond.methodLink RX4 177 yX4_dropOldest, Cond.instanceMethod yX4_dropOldest, Cond.selects RX4 yX4_dropOldest yX4_dropOldest, Cond.code yX4_dropOldest cX4_dropOldest 3 none, Cond.methodLink RX4 180 yX3_copyFrom, Cond.instanceMethod yX3_copyFrom, Cond.selects RX3 yX3_copyFrom yX3_copyFrom, Cond.initialized RX3]
def wsL_addServer_r2 : List Cond := [Cond.code yX3_copyFrom cX3_copyFrom 3 none, Cond.fieldLink RX3 9 "IdleDispatcher$State" "now" "I", Cond.fieldLink RX3 15 "IdleDispatcher$State" "random" "J", Cond.fieldLink RX3 19 "IdleDispatcher$State" "joinMode" "I", Cond.fieldLink RX3 22 "IdleDispatcher$State" "reportPeriod" "I", Cond.fieldLink RX3 25 "IdleDispatcher$State" "serverCount" "I", Cond.fieldLink RX3 28 "IdleDispatcher$State" "dispatcherCount" "I", Cond.fieldLink RX3 33 "IdleDispatcher$State" "servers" "[LIdleDispatcher$Server;", Cond.fieldLink RX3 40 "IdleDispatcher$State" "dispatchers" "[LIdleDispatcher$Dispatcher;", Cond.fieldLink RX3 48 "IdleDispatcher$State" "jobs" "LIdleDispatcher$Jobs;", Cond.methodLink RX3 59 yX2_copyFrom, Cond.instanceMethod yX2_copyFrom, Cond.selects RX2 yX2_copyFrom yX2_copyFrom, Cond.initialized RX2, Cond.code yX2_copyFrom cX2_copyFrom 2 none, Cond.fieldLink RX2 9 "IdleDispatcher$Server" "up" "Z", Cond.fieldLink RX2 15 "IdleDispatcher$Server" "length" "I", Cond.fieldLink RX2 19 "IdleDispatcher$Server" "work" "I", Cond.fieldLink RX2 22 "IdleDispatcher$Server" "registeredAt" "I", Cond.fieldLink RX2 25 "IdleDispatcher$Server" "firstJob" "I", Cond.fieldLink RX2 28 "IdleDispatcher$Server" "lastJob" "I", Cond.methodLink RX3 63 yX0_copyFrom, Cond.instanceMethod yX0_copyFrom, Cond.selects RX0 yX0_copyFrom yX0_copyFrom]
def wsL_addServer_r3 : List Cond := [Cond.initialized RX0, Cond.code yX0_copyFrom cX0_copyFrom 2 none, Cond.fieldLink RX0 9 "IdleDispatcher$Dispatcher" "policy" "I", Cond.fieldLink RX0 15 "IdleDispatcher$Dispatcher" "pointer" "I", Cond.fieldLink RX0 18 "IdleDispatcher$Dispatcher" "idleCount" "I", Cond.fieldLink RX0 21 "IdleDispatcher$Dispatcher" "idle" "[I", Cond.methodLink RX0 28 arraycopyName, Cond.native arraycopyName, Cond.static arraycopyName, Cond.initialized "java/lang/System", Cond.fieldLink RX0 25 "IdleDispatcher$Dispatcher" "known" "[I", Cond.methodLink RX3 66 yX1_copyFrom, Cond.instanceMethod yX1_copyFrom, Cond.selects RX1 yX1_copyFrom yX1_copyFrom, Cond.initialized RX1, Cond.code yX1_copyFrom cX1_copyFrom 2 none, Cond.fieldLink RX1 9 "IdleDispatcher$Jobs" "count" "I", Cond.fieldLink RX1 15 "IdleDispatcher$Jobs" "finished" "I", Cond.fieldLink RX1 18 "IdleDispatcher$Jobs" "begun" "I", Cond.fieldLink RX1 21 "IdleDispatcher$Jobs" "waitSum" "I", Cond.fieldLink RX1 24 "IdleDispatcher$Jobs" "missed" "I", Cond.fieldLink RX1 27 "IdleDispatcher$Jobs" "server" "[I", Cond.methodLink RX1 43 arraycopyName, Cond.fieldLink RX1 31 "IdleDispatcher$Jobs" "left" "[I"]
def wsL_addServer_r4 : List Cond := [Cond.fieldLink RX1 34 "IdleDispatcher$Jobs" "submittedAt" "[I", Cond.fieldLink RX1 37 "IdleDispatcher$Jobs" "wait" "[I", Cond.fieldLink RX1 40 "IdleDispatcher$Jobs" "next" "[I", Cond.methodLink RX3 69 yX3_collectCandidates, Cond.instanceMethod yX3_collectCandidates, Cond.selects RX3 yX3_collectCandidates yX3_collectCandidates, Cond.code yX3_collectCandidates cX3_collectCandidates 2 none, Cond.fieldLink RX3 52 "IdleDispatcher$State" "candidateCount" "I", Cond.fieldLink RX3 79 "IdleDispatcher$Server" "up" "Z", Cond.fieldLink RX3 55 "IdleDispatcher$State" "candidates" "[I", Cond.methodLink RX4 37 yX3_openServer, Cond.instanceMethod yX3_openServer, Cond.selects RX3 yX3_openServer yX3_openServer, Cond.code yX3_openServer cX3_openServer 2 (some .int), Cond.methodLink RX3 72 yX3_register, Cond.instanceMethod yX3_register, Cond.selects RX3 yX3_register yX3_register, Cond.code yX3_register cX3_register 3 none, Cond.fieldLink RX3 104 "IdleDispatcher$Server" "registeredAt" "I", Cond.methodLink RX3 97 yX3_chooseList, Cond.instanceMethod yX3_chooseList, Cond.selects RX3 yX3_chooseList yX3_chooseList, Cond.code yX3_chooseList cX3_chooseList 4 (some .int), Cond.fieldLink RX3 110 "IdleDispatcher$Dispatcher" "idleCount" "I"]
def wsL_addServer_r5 : List Cond := [Cond.methodLink RX3 107 yX3_draw, Cond.instanceMethod yX3_draw, Cond.selects RX3 yX3_draw yX3_draw, Cond.code yX3_draw cX3_draw 2 (some .int), Cond.constantLong RX3 89 (1103515245), Cond.constantLong RX3 91 (12345), Cond.constantLong RX3 93 (2147483648), Cond.constantLong RX3 95 (65536), Cond.methodLink RX3 101 yX0_appendIdle, Cond.instanceMethod yX0_appendIdle, Cond.selects RX0 yX0_appendIdle yX0_appendIdle, Cond.code yX0_appendIdle cX0_appendIdle 2 none]
def wsL_addServer : List Cond := .codeWith yL_addServer cL_addServer 3 (some .int) [(0, 8, 11, 13)] :: ((wsL_addServer_r1 ++ (wsL_addServer_r2 ++ (wsL_addServer_r3 ++ (wsL_addServer_r4 ++ wsL_addServer_r5)))) ++ wsX40 ++ wsX30 ++ wsX20 ++ wsX00 ++ wsX10 ++ (vx_atS RX4 31 "java/lang/IllegalStateException" ["java/lang/RuntimeException", "java/lang/Exception"]).filter goodWord)
def wsL_addDispatcher_r1 : List Cond := [Cond.classLink RL 19 "java/lang/IllegalArgumentException", Cond.classLink RL 13 "java/lang/IllegalStateException", Cond.methodLink RL 15 yX4_addDispatcher, Cond.instanceMethod yX4_addDispatcher, Cond.selects RX4 yX4_addDispatcher yX4_addDispatcher, Cond.initialized RX4, Cond.code yX4_addDispatcher cX4_addDispatcher 2 (some .int), Cond.classLink RX4 27 "java/lang/IllegalStateException", Cond.initialized "java/lang/IllegalStateException", Cond.fieldLink RX4 10 "IdleDispatcher" "state" "LIdleDispatcher$State;", Cond.fieldLink RX4 45 "IdleDispatcher$State" "dispatcherCount" "I", Cond.methodLink RX4 41 yX4_requireRange, Cond.static yX4_requireRange, Cond.code yX4_requireRange cX4_requireRange 3 none, Cond.classLink RX4 184 "java/lang/IllegalArgumentException", Cond.initialized "java/lang/IllegalArgumentException", Cond.methodLink RX4 34 yX4_save, Cond.instanceMethod yX4_save, Cond.selects RX4 yX4_save yX4_save, Cond.code yX4_save cX4_save 1 none, Cond.fieldLink RX4 20 "IdleDispatcher" "savedCount" "I", Cond.fieldLink RX4 16 "IdleDispatcher" "saved" "[LIdleDispatcher$State;", Cond.methodLink RX4 177 yX4_dropOldest, Cond.instanceMethod yX4_dropOldest]
def wsL_addDispatcher_r2 : List Cond := [Cond.selects RX4 yX4_dropOldest yX4_dropOldest, Cond.code yX4_dropOldest cX4_dropOldest 3 none, Cond.methodLink RX4 180 yX3_copyFrom, Cond.instanceMethod yX3_copyFrom, Cond.selects RX3 yX3_copyFrom yX3_copyFrom, Cond.initialized RX3, Cond.code yX3_copyFrom cX3_copyFrom 3 none, Cond.fieldLink RX3 9 "IdleDispatcher$State" "now" "I", Cond.fieldLink RX3 15 "IdleDispatcher$State" "random" "J", Cond.fieldLink RX3 19 "IdleDispatcher$State" "joinMode" "I", Cond.fieldLink RX3 22 "IdleDispatcher$State" "reportPeriod" "I", Cond.fieldLink RX3 25 "IdleDispatcher$State" "serverCount" "I", Cond.fieldLink RX3 28 "IdleDispatcher$State" "dispatcherCount" "I", Cond.fieldLink RX3 33 "IdleDispatcher$State" "servers" "[LIdleDispatcher$Server;", Cond.fieldLink RX3 40 "IdleDispatcher$State" "dispatchers" "[LIdleDispatcher$Dispatcher;", Cond.fieldLink RX3 48 "IdleDispatcher$State" "jobs" "LIdleDispatcher$Jobs;", Cond.methodLink RX3 59 yX2_copyFrom, Cond.instanceMethod yX2_copyFrom, Cond.selects RX2 yX2_copyFrom yX2_copyFrom, Cond.initialized RX2, Cond.code yX2_copyFrom cX2_copyFrom 2 none, Cond.fieldLink RX2 9 "IdleDispatcher$Server" "up" "Z", Cond.fieldLink RX2 15 "IdleDispatcher$Server" "length" "I", Cond.fieldLink RX2 19 "IdleDispatcher$Server" "work" "I"]
def wsL_addDispatcher_r3 : List Cond := [Cond.fieldLink RX2 22 "IdleDispatcher$Server" "registeredAt" "I", Cond.fieldLink RX2 25 "IdleDispatcher$Server" "firstJob" "I", Cond.fieldLink RX2 28 "IdleDispatcher$Server" "lastJob" "I", Cond.methodLink RX3 63 yX0_copyFrom, Cond.instanceMethod yX0_copyFrom, Cond.selects RX0 yX0_copyFrom yX0_copyFrom, Cond.initialized RX0, Cond.code yX0_copyFrom cX0_copyFrom 2 none, Cond.fieldLink RX0 9 "IdleDispatcher$Dispatcher" "policy" "I", Cond.fieldLink RX0 15 "IdleDispatcher$Dispatcher" "pointer" "I", Cond.fieldLink RX0 18 "IdleDispatcher$Dispatcher" "idleCount" "I", Cond.fieldLink RX0 21 "IdleDispatcher$Dispatcher" "idle" "[I", Cond.methodLink RX0 28 arraycopyName, Cond.native arraycopyName, Cond.static arraycopyName, Cond.initialized "java/lang/System", Cond.fieldLink RX0 25 "IdleDispatcher$Dispatcher" "known" "[I", Cond.methodLink RX3 66 yX1_copyFrom, Cond.instanceMethod yX1_copyFrom, Cond.selects RX1 yX1_copyFrom yX1_copyFrom, Cond.initialized RX1, Cond.code yX1_copyFrom cX1_copyFrom 2 none, Cond.fieldLink RX1 9 "IdleDispatcher$Jobs" "count" "I", Cond.fieldLink RX1 15 "IdleDispatcher$Jobs" "finished" "I"]
def wsL_addDispatcher_r4 : List Cond := [Cond.fieldLink RX1 18 "IdleDispatcher$Jobs" "begun" "I", Cond.fieldLink RX1 21 "IdleDispatcher$Jobs" "waitSum" "I", Cond.fieldLink RX1 24 "IdleDispatcher$Jobs" "missed" "I", Cond.fieldLink RX1 27 "IdleDispatcher$Jobs" "server" "[I", Cond.methodLink RX1 43 arraycopyName, Cond.fieldLink RX1 31 "IdleDispatcher$Jobs" "left" "[I", Cond.fieldLink RX1 34 "IdleDispatcher$Jobs" "submittedAt" "[I", Cond.fieldLink RX1 37 "IdleDispatcher$Jobs" "wait" "[I", Cond.fieldLink RX1 40 "IdleDispatcher$Jobs" "next" "[I", Cond.methodLink RX3 69 yX3_collectCandidates, Cond.instanceMethod yX3_collectCandidates, Cond.selects RX3 yX3_collectCandidates yX3_collectCandidates, Cond.code yX3_collectCandidates cX3_collectCandidates 2 none, Cond.fieldLink RX3 52 "IdleDispatcher$State" "candidateCount" "I", Cond.fieldLink RX3 79 "IdleDispatcher$Server" "up" "Z", Cond.fieldLink RX3 55 "IdleDispatcher$State" "candidates" "[I", Cond.methodLink RX4 50 yX3_openDispatcher, Cond.instanceMethod yX3_openDispatcher, Cond.selects RX3 yX3_openDispatcher yX3_openDispatcher, Cond.code yX3_openDispatcher cX3_openDispatcher 3 (some .int), Cond.fieldLink RX3 76 "IdleDispatcher$Dispatcher" "policy" "I"]
def wsL_addDispatcher : List Cond := .codeWith yL_addDispatcher cL_addDispatcher 4 (some .int) [(0, 9, 12, 19), (0, 9, 15, 13)] :: ((wsL_addDispatcher_r1 ++ (wsL_addDispatcher_r2 ++ (wsL_addDispatcher_r3 ++ wsL_addDispatcher_r4))) ++ wsX40 ++ wsX30 ++ wsX20 ++ wsX00 ++ wsX10 ++ (vx_atS RX4 31 "java/lang/IllegalStateException" ["java/lang/RuntimeException", "java/lang/Exception"]).filter goodWord ++ (vx_atS RX4 188 "java/lang/IllegalArgumentException" ["java/lang/RuntimeException", "java/lang/Exception"]).filter goodWord)
def wsL_setPolicy_r1 : List Cond := [Cond.classLink RL 19 "java/lang/IllegalArgumentException", Cond.methodLink RL 21 yX4_setPolicy, Cond.instanceMethod yX4_setPolicy, Cond.selects RX4 yX4_setPolicy yX4_setPolicy, Cond.initialized RX4, Cond.code yX4_setPolicy cX4_setPolicy 4 (some .int), Cond.fieldLink RX4 10 "IdleDispatcher" "state" "LIdleDispatcher$State;", Cond.fieldLink RX4 58 "IdleDispatcher$State" "dispatchers" "[LIdleDispatcher$Dispatcher;", Cond.fieldLink RX4 62 "IdleDispatcher$Dispatcher" "policy" "I", Cond.methodLink RX4 54 yX4_requireDispatcher, Cond.instanceMethod yX4_requireDispatcher, Cond.selects RX4 yX4_requireDispatcher yX4_requireDispatcher, Cond.code yX4_requireDispatcher cX4_requireDispatcher 2 none, Cond.classLink RX4 184 "java/lang/IllegalArgumentException", Cond.initialized "java/lang/IllegalArgumentException", Cond.fieldLink RX4 45 "IdleDispatcher$State" "dispatcherCount" "I", Cond.methodLink RX4 41 yX4_requireRange, Cond.static yX4_requireRange, Cond.code yX4_requireRange cX4_requireRange 3 none, Cond.methodLink RX4 34 yX4_save, Cond.instanceMethod yX4_save, Cond.selects RX4 yX4_save yX4_save, Cond.code yX4_save cX4_save 1 none, Cond.fieldLink RX4 20 "IdleDispatcher" "savedCount" "I"]
def wsL_setPolicy_r2 : List Cond := [Cond.fieldLink RX4 16 "IdleDispatcher" "saved" "[LIdleDispatcher$State;", Cond.methodLink RX4 177 yX4_dropOldest, Cond.instanceMethod yX4_dropOldest, Cond.selects RX4 yX4_dropOldest yX4_dropOldest, Cond.code yX4_dropOldest cX4_dropOldest 3 none, Cond.methodLink RX4 180 yX3_copyFrom, Cond.instanceMethod yX3_copyFrom, Cond.selects RX3 yX3_copyFrom yX3_copyFrom, Cond.initialized RX3, Cond.code yX3_copyFrom cX3_copyFrom 3 none, Cond.fieldLink RX3 9 "IdleDispatcher$State" "now" "I", Cond.fieldLink RX3 15 "IdleDispatcher$State" "random" "J", Cond.fieldLink RX3 19 "IdleDispatcher$State" "joinMode" "I", Cond.fieldLink RX3 22 "IdleDispatcher$State" "reportPeriod" "I", Cond.fieldLink RX3 25 "IdleDispatcher$State" "serverCount" "I", Cond.fieldLink RX3 28 "IdleDispatcher$State" "dispatcherCount" "I", Cond.fieldLink RX3 33 "IdleDispatcher$State" "servers" "[LIdleDispatcher$Server;", Cond.fieldLink RX3 40 "IdleDispatcher$State" "dispatchers" "[LIdleDispatcher$Dispatcher;", Cond.fieldLink RX3 48 "IdleDispatcher$State" "jobs" "LIdleDispatcher$Jobs;", Cond.methodLink RX3 59 yX2_copyFrom, Cond.instanceMethod yX2_copyFrom, Cond.selects RX2 yX2_copyFrom yX2_copyFrom, Cond.initialized RX2, Cond.code yX2_copyFrom cX2_copyFrom 2 none]
def wsL_setPolicy_r3 : List Cond := [Cond.fieldLink RX2 9 "IdleDispatcher$Server" "up" "Z", Cond.fieldLink RX2 15 "IdleDispatcher$Server" "length" "I", Cond.fieldLink RX2 19 "IdleDispatcher$Server" "work" "I", Cond.fieldLink RX2 22 "IdleDispatcher$Server" "registeredAt" "I", Cond.fieldLink RX2 25 "IdleDispatcher$Server" "firstJob" "I", Cond.fieldLink RX2 28 "IdleDispatcher$Server" "lastJob" "I", Cond.methodLink RX3 63 yX0_copyFrom, Cond.instanceMethod yX0_copyFrom, Cond.selects RX0 yX0_copyFrom yX0_copyFrom, Cond.initialized RX0, Cond.code yX0_copyFrom cX0_copyFrom 2 none, Cond.fieldLink RX0 9 "IdleDispatcher$Dispatcher" "policy" "I", Cond.fieldLink RX0 15 "IdleDispatcher$Dispatcher" "pointer" "I", Cond.fieldLink RX0 18 "IdleDispatcher$Dispatcher" "idleCount" "I", Cond.fieldLink RX0 21 "IdleDispatcher$Dispatcher" "idle" "[I", Cond.methodLink RX0 28 arraycopyName, Cond.native arraycopyName, Cond.static arraycopyName, Cond.initialized "java/lang/System", Cond.fieldLink RX0 25 "IdleDispatcher$Dispatcher" "known" "[I", Cond.methodLink RX3 66 yX1_copyFrom, Cond.instanceMethod yX1_copyFrom, Cond.selects RX1 yX1_copyFrom yX1_copyFrom, Cond.initialized RX1]
def wsL_setPolicy_r4 : List Cond := [Cond.code yX1_copyFrom cX1_copyFrom 2 none, Cond.fieldLink RX1 9 "IdleDispatcher$Jobs" "count" "I", Cond.fieldLink RX1 15 "IdleDispatcher$Jobs" "finished" "I", Cond.fieldLink RX1 18 "IdleDispatcher$Jobs" "begun" "I", Cond.fieldLink RX1 21 "IdleDispatcher$Jobs" "waitSum" "I", Cond.fieldLink RX1 24 "IdleDispatcher$Jobs" "missed" "I", Cond.fieldLink RX1 27 "IdleDispatcher$Jobs" "server" "[I", Cond.methodLink RX1 43 arraycopyName, Cond.fieldLink RX1 31 "IdleDispatcher$Jobs" "left" "[I", Cond.fieldLink RX1 34 "IdleDispatcher$Jobs" "submittedAt" "[I", Cond.fieldLink RX1 37 "IdleDispatcher$Jobs" "wait" "[I", Cond.fieldLink RX1 40 "IdleDispatcher$Jobs" "next" "[I", Cond.methodLink RX3 69 yX3_collectCandidates, Cond.instanceMethod yX3_collectCandidates, Cond.selects RX3 yX3_collectCandidates yX3_collectCandidates, Cond.code yX3_collectCandidates cX3_collectCandidates 2 none, Cond.fieldLink RX3 52 "IdleDispatcher$State" "candidateCount" "I", Cond.fieldLink RX3 79 "IdleDispatcher$Server" "up" "Z", Cond.fieldLink RX3 55 "IdleDispatcher$State" "candidates" "[I"]
def wsL_setPolicy : List Cond := .codeWith yL_setPolicy cL_setPolicy 5 (some .int) [(0, 10, 13, 19)] :: ((wsL_setPolicy_r1 ++ (wsL_setPolicy_r2 ++ (wsL_setPolicy_r3 ++ wsL_setPolicy_r4))) ++ wsX40 ++ wsX30 ++ wsX00 ++ wsX20 ++ wsX10 ++ (vx_atS RX4 188 "java/lang/IllegalArgumentException" ["java/lang/RuntimeException", "java/lang/Exception"]).filter goodWord)
def wsL_setJoinMode_r1 : List Cond := [Cond.classLink RL 19 "java/lang/IllegalArgumentException", Cond.methodLink RL 25 yX4_setJoinMode, Cond.instanceMethod yX4_setJoinMode, Cond.selects RX4 yX4_setJoinMode yX4_setJoinMode, Cond.initialized RX4, Cond.code yX4_setJoinMode cX4_setJoinMode 3 (some .int), Cond.fieldLink RX4 10 "IdleDispatcher" "state" "LIdleDispatcher$State;", Cond.fieldLink RX4 67 "IdleDispatcher$State" "joinMode" "I", Cond.methodLink RX4 41 yX4_requireRange, Cond.static yX4_requireRange, Cond.code yX4_requireRange cX4_requireRange 3 none, Cond.classLink RX4 184 "java/lang/IllegalArgumentException", Cond.initialized "java/lang/IllegalArgumentException", Cond.methodLink RX4 34 yX4_save, Cond.instanceMethod yX4_save, Cond.selects RX4 yX4_save yX4_save, Cond.code yX4_save cX4_save 1 none, Cond.fieldLink RX4 20 "IdleDispatcher" "savedCount" "I", Cond.fieldLink RX4 16 "IdleDispatcher" "saved" "[LIdleDispatcher$State;", Cond.methodLink RX4 177 yX4_dropOldest, Cond.instanceMethod yX4_dropOldest, Cond.selects RX4 yX4_dropOldest yX4_dropOldest, Cond.code yX4_dropOldest cX4_dropOldest 3 none, Cond.methodLink RX4 180 yX3_copyFrom]
def wsL_setJoinMode_r2 : List Cond := [Cond.instanceMethod yX3_copyFrom, Cond.selects RX3 yX3_copyFrom yX3_copyFrom, Cond.initialized RX3, Cond.code yX3_copyFrom cX3_copyFrom 3 none, Cond.fieldLink RX3 9 "IdleDispatcher$State" "now" "I", Cond.fieldLink RX3 15 "IdleDispatcher$State" "random" "J", Cond.fieldLink RX3 19 "IdleDispatcher$State" "joinMode" "I", Cond.fieldLink RX3 22 "IdleDispatcher$State" "reportPeriod" "I", Cond.fieldLink RX3 25 "IdleDispatcher$State" "serverCount" "I", Cond.fieldLink RX3 28 "IdleDispatcher$State" "dispatcherCount" "I", Cond.fieldLink RX3 33 "IdleDispatcher$State" "servers" "[LIdleDispatcher$Server;", Cond.fieldLink RX3 40 "IdleDispatcher$State" "dispatchers" "[LIdleDispatcher$Dispatcher;", Cond.fieldLink RX3 48 "IdleDispatcher$State" "jobs" "LIdleDispatcher$Jobs;", Cond.methodLink RX3 59 yX2_copyFrom, Cond.instanceMethod yX2_copyFrom, Cond.selects RX2 yX2_copyFrom yX2_copyFrom, Cond.initialized RX2, Cond.code yX2_copyFrom cX2_copyFrom 2 none, Cond.fieldLink RX2 9 "IdleDispatcher$Server" "up" "Z", Cond.fieldLink RX2 15 "IdleDispatcher$Server" "length" "I", Cond.fieldLink RX2 19 "IdleDispatcher$Server" "work" "I", Cond.fieldLink RX2 22 "IdleDispatcher$Server" "registeredAt" "I", Cond.fieldLink RX2 25 "IdleDispatcher$Server" "firstJob" "I", Cond.fieldLink RX2 28 "IdleDispatcher$Server" "lastJob" "I"]
def wsL_setJoinMode_r3 : List Cond := [Cond.methodLink RX3 63 yX0_copyFrom, Cond.instanceMethod yX0_copyFrom, Cond.selects RX0 yX0_copyFrom yX0_copyFrom, Cond.initialized RX0, Cond.code yX0_copyFrom cX0_copyFrom 2 none, Cond.fieldLink RX0 9 "IdleDispatcher$Dispatcher" "policy" "I", Cond.fieldLink RX0 15 "IdleDispatcher$Dispatcher" "pointer" "I", Cond.fieldLink RX0 18 "IdleDispatcher$Dispatcher" "idleCount" "I", Cond.fieldLink RX0 21 "IdleDispatcher$Dispatcher" "idle" "[I", Cond.methodLink RX0 28 arraycopyName, Cond.native arraycopyName, Cond.static arraycopyName, Cond.initialized "java/lang/System", Cond.fieldLink RX0 25 "IdleDispatcher$Dispatcher" "known" "[I", Cond.methodLink RX3 66 yX1_copyFrom, Cond.instanceMethod yX1_copyFrom, Cond.selects RX1 yX1_copyFrom yX1_copyFrom, Cond.initialized RX1, Cond.code yX1_copyFrom cX1_copyFrom 2 none, Cond.fieldLink RX1 9 "IdleDispatcher$Jobs" "count" "I", Cond.fieldLink RX1 15 "IdleDispatcher$Jobs" "finished" "I", Cond.fieldLink RX1 18 "IdleDispatcher$Jobs" "begun" "I", Cond.fieldLink RX1 21 "IdleDispatcher$Jobs" "waitSum" "I", Cond.fieldLink RX1 24 "IdleDispatcher$Jobs" "missed" "I"]
def wsL_setJoinMode_r4 : List Cond := [Cond.fieldLink RX1 27 "IdleDispatcher$Jobs" "server" "[I", Cond.methodLink RX1 43 arraycopyName, Cond.fieldLink RX1 31 "IdleDispatcher$Jobs" "left" "[I", Cond.fieldLink RX1 34 "IdleDispatcher$Jobs" "submittedAt" "[I", Cond.fieldLink RX1 37 "IdleDispatcher$Jobs" "wait" "[I", Cond.fieldLink RX1 40 "IdleDispatcher$Jobs" "next" "[I", Cond.methodLink RX3 69 yX3_collectCandidates, Cond.instanceMethod yX3_collectCandidates, Cond.selects RX3 yX3_collectCandidates yX3_collectCandidates, Cond.code yX3_collectCandidates cX3_collectCandidates 2 none, Cond.fieldLink RX3 52 "IdleDispatcher$State" "candidateCount" "I", Cond.fieldLink RX3 79 "IdleDispatcher$Server" "up" "Z", Cond.fieldLink RX3 55 "IdleDispatcher$State" "candidates" "[I"]
def wsL_setJoinMode : List Cond := .codeWith yL_setJoinMode cL_setJoinMode 4 (some .int) [(0, 9, 12, 19)] :: ((wsL_setJoinMode_r1 ++ (wsL_setJoinMode_r2 ++ (wsL_setJoinMode_r3 ++ wsL_setJoinMode_r4))) ++ wsX40 ++ wsX30 ++ wsX20 ++ wsX00 ++ wsX10 ++ (vx_atS RX4 188 "java/lang/IllegalArgumentException" ["java/lang/RuntimeException", "java/lang/Exception"]).filter goodWord)
def wsL_setReportPeriod_r1 : List Cond := [Cond.classLink RL 19 "java/lang/IllegalArgumentException", Cond.methodLink RL 28 yX4_setReportPeriod, Cond.instanceMethod yX4_setReportPeriod, Cond.selects RX4 yX4_setReportPeriod yX4_setReportPeriod, Cond.initialized RX4, Cond.code yX4_setReportPeriod cX4_setReportPeriod 3 (some .int), Cond.fieldLink RX4 10 "IdleDispatcher" "state" "LIdleDispatcher$State;", Cond.fieldLink RX4 70 "IdleDispatcher$State" "reportPeriod" "I", Cond.methodLink RX4 41 yX4_requireRange, Cond.static yX4_requireRange, Cond.code yX4_requireRange cX4_requireRange 3 none, Cond.classLink RX4 184 "java/lang/IllegalArgumentException", Cond.initialized "java/lang/IllegalArgumentException", Cond.methodLink RX4 34 yX4_save, Cond.instanceMethod yX4_save, Cond.selects RX4 yX4_save yX4_save, Cond.code yX4_save cX4_save 1 none, Cond.fieldLink RX4 20 "IdleDispatcher" "savedCount" "I", Cond.fieldLink RX4 16 "IdleDispatcher" "saved" "[LIdleDispatcher$State;", Cond.methodLink RX4 177 yX4_dropOldest, Cond.instanceMethod yX4_dropOldest, Cond.selects RX4 yX4_dropOldest yX4_dropOldest, Cond.code yX4_dropOldest cX4_dropOldest 3 none, Cond.methodLink RX4 180 yX3_copyFrom]
def wsL_setReportPeriod_r2 : List Cond := [Cond.instanceMethod yX3_copyFrom, Cond.selects RX3 yX3_copyFrom yX3_copyFrom, Cond.initialized RX3, Cond.code yX3_copyFrom cX3_copyFrom 3 none, Cond.fieldLink RX3 9 "IdleDispatcher$State" "now" "I", Cond.fieldLink RX3 15 "IdleDispatcher$State" "random" "J", Cond.fieldLink RX3 19 "IdleDispatcher$State" "joinMode" "I", Cond.fieldLink RX3 22 "IdleDispatcher$State" "reportPeriod" "I", Cond.fieldLink RX3 25 "IdleDispatcher$State" "serverCount" "I", Cond.fieldLink RX3 28 "IdleDispatcher$State" "dispatcherCount" "I", Cond.fieldLink RX3 33 "IdleDispatcher$State" "servers" "[LIdleDispatcher$Server;", Cond.fieldLink RX3 40 "IdleDispatcher$State" "dispatchers" "[LIdleDispatcher$Dispatcher;", Cond.fieldLink RX3 48 "IdleDispatcher$State" "jobs" "LIdleDispatcher$Jobs;", Cond.methodLink RX3 59 yX2_copyFrom, Cond.instanceMethod yX2_copyFrom, Cond.selects RX2 yX2_copyFrom yX2_copyFrom, Cond.initialized RX2, Cond.code yX2_copyFrom cX2_copyFrom 2 none, Cond.fieldLink RX2 9 "IdleDispatcher$Server" "up" "Z", Cond.fieldLink RX2 15 "IdleDispatcher$Server" "length" "I", Cond.fieldLink RX2 19 "IdleDispatcher$Server" "work" "I", Cond.fieldLink RX2 22 "IdleDispatcher$Server" "registeredAt" "I", Cond.fieldLink RX2 25 "IdleDispatcher$Server" "firstJob" "I", Cond.fieldLink RX2 28 "IdleDispatcher$Server" "lastJob" "I"]
def wsL_setReportPeriod_r3 : List Cond := [Cond.methodLink RX3 63 yX0_copyFrom, Cond.instanceMethod yX0_copyFrom, Cond.selects RX0 yX0_copyFrom yX0_copyFrom, Cond.initialized RX0, Cond.code yX0_copyFrom cX0_copyFrom 2 none, Cond.fieldLink RX0 9 "IdleDispatcher$Dispatcher" "policy" "I", Cond.fieldLink RX0 15 "IdleDispatcher$Dispatcher" "pointer" "I", Cond.fieldLink RX0 18 "IdleDispatcher$Dispatcher" "idleCount" "I", Cond.fieldLink RX0 21 "IdleDispatcher$Dispatcher" "idle" "[I", Cond.methodLink RX0 28 arraycopyName, Cond.native arraycopyName, Cond.static arraycopyName, Cond.initialized "java/lang/System", Cond.fieldLink RX0 25 "IdleDispatcher$Dispatcher" "known" "[I", Cond.methodLink RX3 66 yX1_copyFrom, Cond.instanceMethod yX1_copyFrom, Cond.selects RX1 yX1_copyFrom yX1_copyFrom, Cond.initialized RX1, Cond.code yX1_copyFrom cX1_copyFrom 2 none, Cond.fieldLink RX1 9 "IdleDispatcher$Jobs" "count" "I", Cond.fieldLink RX1 15 "IdleDispatcher$Jobs" "finished" "I", Cond.fieldLink RX1 18 "IdleDispatcher$Jobs" "begun" "I", Cond.fieldLink RX1 21 "IdleDispatcher$Jobs" "waitSum" "I", Cond.fieldLink RX1 24 "IdleDispatcher$Jobs" "missed" "I"]
def wsL_setReportPeriod_r4 : List Cond := [Cond.fieldLink RX1 27 "IdleDispatcher$Jobs" "server" "[I", Cond.methodLink RX1 43 arraycopyName, Cond.fieldLink RX1 31 "IdleDispatcher$Jobs" "left" "[I", Cond.fieldLink RX1 34 "IdleDispatcher$Jobs" "submittedAt" "[I", Cond.fieldLink RX1 37 "IdleDispatcher$Jobs" "wait" "[I", Cond.fieldLink RX1 40 "IdleDispatcher$Jobs" "next" "[I", Cond.methodLink RX3 69 yX3_collectCandidates, Cond.instanceMethod yX3_collectCandidates, Cond.selects RX3 yX3_collectCandidates yX3_collectCandidates, Cond.code yX3_collectCandidates cX3_collectCandidates 2 none, Cond.fieldLink RX3 52 "IdleDispatcher$State" "candidateCount" "I", Cond.fieldLink RX3 79 "IdleDispatcher$Server" "up" "Z", Cond.fieldLink RX3 55 "IdleDispatcher$State" "candidates" "[I"]
def wsL_setReportPeriod : List Cond := .codeWith yL_setReportPeriod cL_setReportPeriod 4 (some .int) [(0, 9, 12, 19)] :: ((wsL_setReportPeriod_r1 ++ (wsL_setReportPeriod_r2 ++ (wsL_setReportPeriod_r3 ++ wsL_setReportPeriod_r4))) ++ wsX40 ++ wsX30 ++ wsX20 ++ wsX00 ++ wsX10 ++ (vx_atS RX4 188 "java/lang/IllegalArgumentException" ["java/lang/RuntimeException", "java/lang/Exception"]).filter goodWord)
def wsL_setRandom_r1 : List Cond := [Cond.classLink RL 19 "java/lang/IllegalArgumentException", Cond.methodLink RL 31 yX4_setRandom, Cond.instanceMethod yX4_setRandom, Cond.selects RX4 yX4_setRandom yX4_setRandom, Cond.initialized RX4, Cond.code yX4_setRandom cX4_setRandom 2 (some .int), Cond.constant RX4 73 (999999), Cond.fieldLink RX4 10 "IdleDispatcher" "state" "LIdleDispatcher$State;", Cond.fieldLink RX4 74 "IdleDispatcher$State" "random" "J", Cond.methodLink RX4 41 yX4_requireRange, Cond.static yX4_requireRange, Cond.code yX4_requireRange cX4_requireRange 3 none, Cond.classLink RX4 184 "java/lang/IllegalArgumentException", Cond.initialized "java/lang/IllegalArgumentException", Cond.methodLink RX4 34 yX4_save, Cond.instanceMethod yX4_save, Cond.selects RX4 yX4_save yX4_save, Cond.code yX4_save cX4_save 1 none, Cond.fieldLink RX4 20 "IdleDispatcher" "savedCount" "I", Cond.fieldLink RX4 16 "IdleDispatcher" "saved" "[LIdleDispatcher$State;", Cond.methodLink RX4 177 yX4_dropOldest, Cond.instanceMethod yX4_dropOldest, Cond.selects RX4 yX4_dropOldest yX4_dropOldest, Cond.code yX4_dropOldest cX4_dropOldest 3 none]
def wsL_setRandom_r2 : List Cond := [Cond.methodLink RX4 180 yX3_copyFrom, Cond.instanceMethod yX3_copyFrom, Cond.selects RX3 yX3_copyFrom yX3_copyFrom, Cond.initialized RX3, Cond.code yX3_copyFrom cX3_copyFrom 3 none, Cond.fieldLink RX3 9 "IdleDispatcher$State" "now" "I", Cond.fieldLink RX3 15 "IdleDispatcher$State" "random" "J", Cond.fieldLink RX3 19 "IdleDispatcher$State" "joinMode" "I", Cond.fieldLink RX3 22 "IdleDispatcher$State" "reportPeriod" "I", Cond.fieldLink RX3 25 "IdleDispatcher$State" "serverCount" "I", Cond.fieldLink RX3 28 "IdleDispatcher$State" "dispatcherCount" "I", Cond.fieldLink RX3 33 "IdleDispatcher$State" "servers" "[LIdleDispatcher$Server;", Cond.fieldLink RX3 40 "IdleDispatcher$State" "dispatchers" "[LIdleDispatcher$Dispatcher;", Cond.fieldLink RX3 48 "IdleDispatcher$State" "jobs" "LIdleDispatcher$Jobs;", Cond.methodLink RX3 59 yX2_copyFrom, Cond.instanceMethod yX2_copyFrom, Cond.selects RX2 yX2_copyFrom yX2_copyFrom, Cond.initialized RX2, Cond.code yX2_copyFrom cX2_copyFrom 2 none, Cond.fieldLink RX2 9 "IdleDispatcher$Server" "up" "Z", Cond.fieldLink RX2 15 "IdleDispatcher$Server" "length" "I", Cond.fieldLink RX2 19 "IdleDispatcher$Server" "work" "I", Cond.fieldLink RX2 22 "IdleDispatcher$Server" "registeredAt" "I", Cond.fieldLink RX2 25 "IdleDispatcher$Server" "firstJob" "I"]
def wsL_setRandom_r3 : List Cond := [Cond.fieldLink RX2 28 "IdleDispatcher$Server" "lastJob" "I", Cond.methodLink RX3 63 yX0_copyFrom, Cond.instanceMethod yX0_copyFrom, Cond.selects RX0 yX0_copyFrom yX0_copyFrom, Cond.initialized RX0, Cond.code yX0_copyFrom cX0_copyFrom 2 none, Cond.fieldLink RX0 9 "IdleDispatcher$Dispatcher" "policy" "I", Cond.fieldLink RX0 15 "IdleDispatcher$Dispatcher" "pointer" "I", Cond.fieldLink RX0 18 "IdleDispatcher$Dispatcher" "idleCount" "I", Cond.fieldLink RX0 21 "IdleDispatcher$Dispatcher" "idle" "[I", Cond.methodLink RX0 28 arraycopyName, Cond.native arraycopyName, Cond.static arraycopyName, Cond.initialized "java/lang/System", Cond.fieldLink RX0 25 "IdleDispatcher$Dispatcher" "known" "[I", Cond.methodLink RX3 66 yX1_copyFrom, Cond.instanceMethod yX1_copyFrom, Cond.selects RX1 yX1_copyFrom yX1_copyFrom, Cond.initialized RX1, Cond.code yX1_copyFrom cX1_copyFrom 2 none, Cond.fieldLink RX1 9 "IdleDispatcher$Jobs" "count" "I", Cond.fieldLink RX1 15 "IdleDispatcher$Jobs" "finished" "I", Cond.fieldLink RX1 18 "IdleDispatcher$Jobs" "begun" "I", Cond.fieldLink RX1 21 "IdleDispatcher$Jobs" "waitSum" "I"]
def wsL_setRandom_r4 : List Cond := [Cond.fieldLink RX1 24 "IdleDispatcher$Jobs" "missed" "I", Cond.fieldLink RX1 27 "IdleDispatcher$Jobs" "server" "[I", Cond.methodLink RX1 43 arraycopyName, Cond.fieldLink RX1 31 "IdleDispatcher$Jobs" "left" "[I", Cond.fieldLink RX1 34 "IdleDispatcher$Jobs" "submittedAt" "[I", Cond.fieldLink RX1 37 "IdleDispatcher$Jobs" "wait" "[I", Cond.fieldLink RX1 40 "IdleDispatcher$Jobs" "next" "[I", Cond.methodLink RX3 69 yX3_collectCandidates, Cond.instanceMethod yX3_collectCandidates, Cond.selects RX3 yX3_collectCandidates yX3_collectCandidates, Cond.code yX3_collectCandidates cX3_collectCandidates 2 none, Cond.fieldLink RX3 52 "IdleDispatcher$State" "candidateCount" "I", Cond.fieldLink RX3 79 "IdleDispatcher$Server" "up" "Z", Cond.fieldLink RX3 55 "IdleDispatcher$State" "candidates" "[I"]
def wsL_setRandom : List Cond := .codeWith yL_setRandom cL_setRandom 4 (some .int) [(0, 9, 12, 19)] :: ((wsL_setRandom_r1 ++ (wsL_setRandom_r2 ++ (wsL_setRandom_r3 ++ wsL_setRandom_r4))) ++ wsX40 ++ wsX30 ++ wsX20 ++ wsX00 ++ wsX10 ++ (vx_atS RX4 188 "java/lang/IllegalArgumentException" ["java/lang/RuntimeException", "java/lang/Exception"]).filter goodWord)
def wsL_setUp_r1 : List Cond := [Cond.classLink RL 19 "java/lang/IllegalArgumentException", Cond.methodLink RL 34 yX4_setUp, Cond.instanceMethod yX4_setUp, Cond.selects RX4 yX4_setUp yX4_setUp, Cond.initialized RX4, Cond.code yX4_setUp cX4_setUp 3 (some .boolean), Cond.fieldLink RX4 10 "IdleDispatcher" "state" "LIdleDispatcher$State;", Cond.methodLink RX4 78 yX4_requireServer, Cond.instanceMethod yX4_requireServer, Cond.selects RX4 yX4_requireServer yX4_requireServer, Cond.code yX4_requireServer cX4_requireServer 2 none, Cond.classLink RX4 184 "java/lang/IllegalArgumentException", Cond.initialized "java/lang/IllegalArgumentException", Cond.fieldLink RX4 24 "IdleDispatcher$State" "serverCount" "I", Cond.methodLink RX4 34 yX4_save, Cond.instanceMethod yX4_save, Cond.selects RX4 yX4_save yX4_save, Cond.code yX4_save cX4_save 1 none, Cond.fieldLink RX4 20 "IdleDispatcher" "savedCount" "I", Cond.fieldLink RX4 16 "IdleDispatcher" "saved" "[LIdleDispatcher$State;", Cond.methodLink RX4 177 yX4_dropOldest, Cond.instanceMethod yX4_dropOldest, Cond.selects RX4 yX4_dropOldest yX4_dropOldest, Cond.code yX4_dropOldest cX4_dropOldest 3 none]
def wsL_setUp_r2 : List Cond := [Cond.methodLink RX4 180 yX3_copyFrom, Cond.instanceMethod yX3_copyFrom, Cond.selects RX3 yX3_copyFrom yX3_copyFrom, Cond.initialized RX3, Cond.code yX3_copyFrom cX3_copyFrom 3 none, Cond.fieldLink RX3 9 "IdleDispatcher$State" "now" "I", Cond.fieldLink RX3 15 "IdleDispatcher$State" "random" "J", Cond.fieldLink RX3 19 "IdleDispatcher$State" "joinMode" "I", Cond.fieldLink RX3 22 "IdleDispatcher$State" "reportPeriod" "I", Cond.fieldLink RX3 25 "IdleDispatcher$State" "serverCount" "I", Cond.fieldLink RX3 28 "IdleDispatcher$State" "dispatcherCount" "I", Cond.fieldLink RX3 33 "IdleDispatcher$State" "servers" "[LIdleDispatcher$Server;", Cond.fieldLink RX3 40 "IdleDispatcher$State" "dispatchers" "[LIdleDispatcher$Dispatcher;", Cond.fieldLink RX3 48 "IdleDispatcher$State" "jobs" "LIdleDispatcher$Jobs;", Cond.methodLink RX3 59 yX2_copyFrom, Cond.instanceMethod yX2_copyFrom, Cond.selects RX2 yX2_copyFrom yX2_copyFrom, Cond.initialized RX2, Cond.code yX2_copyFrom cX2_copyFrom 2 none, Cond.fieldLink RX2 9 "IdleDispatcher$Server" "up" "Z", Cond.fieldLink RX2 15 "IdleDispatcher$Server" "length" "I", Cond.fieldLink RX2 19 "IdleDispatcher$Server" "work" "I", Cond.fieldLink RX2 22 "IdleDispatcher$Server" "registeredAt" "I", Cond.fieldLink RX2 25 "IdleDispatcher$Server" "firstJob" "I"]
def wsL_setUp_r3 : List Cond := [Cond.fieldLink RX2 28 "IdleDispatcher$Server" "lastJob" "I", Cond.methodLink RX3 63 yX0_copyFrom, Cond.instanceMethod yX0_copyFrom, Cond.selects RX0 yX0_copyFrom yX0_copyFrom, Cond.initialized RX0, Cond.code yX0_copyFrom cX0_copyFrom 2 none, Cond.fieldLink RX0 9 "IdleDispatcher$Dispatcher" "policy" "I", Cond.fieldLink RX0 15 "IdleDispatcher$Dispatcher" "pointer" "I", Cond.fieldLink RX0 18 "IdleDispatcher$Dispatcher" "idleCount" "I", Cond.fieldLink RX0 21 "IdleDispatcher$Dispatcher" "idle" "[I", Cond.methodLink RX0 28 arraycopyName, Cond.native arraycopyName, Cond.static arraycopyName, Cond.initialized "java/lang/System", Cond.fieldLink RX0 25 "IdleDispatcher$Dispatcher" "known" "[I", Cond.methodLink RX3 66 yX1_copyFrom, Cond.instanceMethod yX1_copyFrom, Cond.selects RX1 yX1_copyFrom yX1_copyFrom, Cond.initialized RX1, Cond.code yX1_copyFrom cX1_copyFrom 2 none, Cond.fieldLink RX1 9 "IdleDispatcher$Jobs" "count" "I", Cond.fieldLink RX1 15 "IdleDispatcher$Jobs" "finished" "I", Cond.fieldLink RX1 18 "IdleDispatcher$Jobs" "begun" "I", Cond.fieldLink RX1 21 "IdleDispatcher$Jobs" "waitSum" "I"]
def wsL_setUp_r4 : List Cond := [Cond.fieldLink RX1 24 "IdleDispatcher$Jobs" "missed" "I", Cond.fieldLink RX1 27 "IdleDispatcher$Jobs" "server" "[I", Cond.methodLink RX1 43 arraycopyName, Cond.fieldLink RX1 31 "IdleDispatcher$Jobs" "left" "[I", Cond.fieldLink RX1 34 "IdleDispatcher$Jobs" "submittedAt" "[I", Cond.fieldLink RX1 37 "IdleDispatcher$Jobs" "wait" "[I", Cond.fieldLink RX1 40 "IdleDispatcher$Jobs" "next" "[I", Cond.methodLink RX3 69 yX3_collectCandidates, Cond.instanceMethod yX3_collectCandidates, Cond.selects RX3 yX3_collectCandidates yX3_collectCandidates, Cond.code yX3_collectCandidates cX3_collectCandidates 2 none, Cond.fieldLink RX3 52 "IdleDispatcher$State" "candidateCount" "I", Cond.fieldLink RX3 79 "IdleDispatcher$Server" "up" "Z", Cond.fieldLink RX3 55 "IdleDispatcher$State" "candidates" "[I", Cond.methodLink RX4 81 yX3_switchServer, Cond.instanceMethod yX3_switchServer, Cond.selects RX3 yX3_switchServer yX3_switchServer, Cond.code yX3_switchServer cX3_switchServer 5 (some .boolean), Cond.fieldLink RX3 86 "IdleDispatcher$Server" "length" "I", Cond.methodLink RX3 83 yX3_leaveIdleList, Cond.instanceMethod yX3_leaveIdleList, Cond.selects RX3 yX3_leaveIdleList yX3_leaveIdleList, Cond.code yX3_leaveIdleList cX3_leaveIdleList 3 none, Cond.fieldLink RX3 104 "IdleDispatcher$Server" "registeredAt" "I"]
def wsL_setUp_r5 : List Cond := [Cond.methodLink RX3 113 yX0_removeIdle, Cond.instanceMethod yX0_removeIdle, Cond.selects RX0 yX0_removeIdle yX0_removeIdle, Cond.code yX0_removeIdle cX0_removeIdle 4 none, Cond.methodLink RX3 72 yX3_register, Cond.instanceMethod yX3_register, Cond.selects RX3 yX3_register yX3_register, Cond.code yX3_register cX3_register 3 none, Cond.methodLink RX3 97 yX3_chooseList, Cond.instanceMethod yX3_chooseList, Cond.selects RX3 yX3_chooseList yX3_chooseList, Cond.code yX3_chooseList cX3_chooseList 4 (some .int), Cond.fieldLink RX3 110 "IdleDispatcher$Dispatcher" "idleCount" "I", Cond.methodLink RX3 107 yX3_draw, Cond.instanceMethod yX3_draw, Cond.selects RX3 yX3_draw yX3_draw, Cond.code yX3_draw cX3_draw 2 (some .int), Cond.constantLong RX3 89 (1103515245), Cond.constantLong RX3 91 (12345), Cond.constantLong RX3 93 (2147483648), Cond.constantLong RX3 95 (65536), Cond.methodLink RX3 101 yX0_appendIdle, Cond.instanceMethod yX0_appendIdle, Cond.selects RX0 yX0_appendIdle yX0_appendIdle]
def wsL_setUp_r6 : List Cond := [Cond.code yX0_appendIdle cX0_appendIdle 2 none]
def wsL_setUp : List Cond := .codeWith yL_setUp cL_setUp 5 (some .int) [(0, 17, 20, 19)] :: ((wsL_setUp_r1 ++ (wsL_setUp_r2 ++ (wsL_setUp_r3 ++ (wsL_setUp_r4 ++ (wsL_setUp_r5 ++ wsL_setUp_r6))))) ++ wsX40 ++ wsX30 ++ wsX20 ++ wsX00 ++ wsX10 ++ (vx_atS RX4 188 "java/lang/IllegalArgumentException" ["java/lang/RuntimeException", "java/lang/Exception"]).filter goodWord)
def wsL_submit_r1 : List Cond := [Cond.classLink RL 19 "java/lang/IllegalArgumentException", Cond.classLink RL 13 "java/lang/IllegalStateException", Cond.methodLink RL 38 yX4_submit, Cond.instanceMethod yX4_submit, Cond.selects RX4 yX4_submit yX4_submit, Cond.initialized RX4, Cond.code yX4_submit cX4_submit 3 (some .int), Cond.classLink RX4 27 "java/lang/IllegalStateException", Cond.initialized "java/lang/IllegalStateException", Cond.fieldLink RX4 10 "IdleDispatcher" "state" "LIdleDispatcher$State;", Cond.fieldLink RX4 88 "IdleDispatcher$State" "jobs" "LIdleDispatcher$Jobs;", Cond.fieldLink RX4 92 "IdleDispatcher$Jobs" "count" "I", Cond.methodLink RX4 54 yX4_requireDispatcher, Cond.instanceMethod yX4_requireDispatcher, Cond.selects RX4 yX4_requireDispatcher yX4_requireDispatcher, Cond.code yX4_requireDispatcher cX4_requireDispatcher 2 none, Cond.classLink RX4 184 "java/lang/IllegalArgumentException", Cond.initialized "java/lang/IllegalArgumentException", Cond.fieldLink RX4 45 "IdleDispatcher$State" "dispatcherCount" "I", Cond.methodLink RX4 41 yX4_requireRange, Cond.static yX4_requireRange, Cond.code yX4_requireRange cX4_requireRange 3 none, Cond.methodLink RX4 85 yX4_requireServerUp, Cond.instanceMethod yX4_requireServerUp]
def wsL_submit_r2 : List Cond := [Cond.selects RX4 yX4_requireServerUp yX4_requireServerUp, Cond.code yX4_requireServerUp cX4_requireServerUp 1 none, Cond.fieldLink RX4 191 "IdleDispatcher$State" "candidateCount" "I", Cond.methodLink RX4 34 yX4_save, Cond.instanceMethod yX4_save, Cond.selects RX4 yX4_save yX4_save, Cond.code yX4_save cX4_save 1 none, Cond.fieldLink RX4 20 "IdleDispatcher" "savedCount" "I", Cond.fieldLink RX4 16 "IdleDispatcher" "saved" "[LIdleDispatcher$State;", Cond.methodLink RX4 177 yX4_dropOldest, Cond.instanceMethod yX4_dropOldest, Cond.selects RX4 yX4_dropOldest yX4_dropOldest, Cond.code yX4_dropOldest cX4_dropOldest 3 none, Cond.methodLink RX4 180 yX3_copyFrom, Cond.instanceMethod yX3_copyFrom, Cond.selects RX3 yX3_copyFrom yX3_copyFrom, Cond.initialized RX3, Cond.code yX3_copyFrom cX3_copyFrom 3 none, Cond.fieldLink RX3 9 "IdleDispatcher$State" "now" "I", Cond.fieldLink RX3 15 "IdleDispatcher$State" "random" "J", Cond.fieldLink RX3 19 "IdleDispatcher$State" "joinMode" "I", Cond.fieldLink RX3 22 "IdleDispatcher$State" "reportPeriod" "I", Cond.fieldLink RX3 25 "IdleDispatcher$State" "serverCount" "I", Cond.fieldLink RX3 28 "IdleDispatcher$State" "dispatcherCount" "I"]
def wsL_submit_r3 : List Cond := [Cond.fieldLink RX3 33 "IdleDispatcher$State" "servers" "[LIdleDispatcher$Server;", Cond.fieldLink RX3 40 "IdleDispatcher$State" "dispatchers" "[LIdleDispatcher$Dispatcher;", Cond.fieldLink RX3 48 "IdleDispatcher$State" "jobs" "LIdleDispatcher$Jobs;", Cond.methodLink RX3 59 yX2_copyFrom, Cond.instanceMethod yX2_copyFrom, Cond.selects RX2 yX2_copyFrom yX2_copyFrom, Cond.initialized RX2, Cond.code yX2_copyFrom cX2_copyFrom 2 none, Cond.fieldLink RX2 9 "IdleDispatcher$Server" "up" "Z", Cond.fieldLink RX2 15 "IdleDispatcher$Server" "length" "I", Cond.fieldLink RX2 19 "IdleDispatcher$Server" "work" "I", Cond.fieldLink RX2 22 "IdleDispatcher$Server" "registeredAt" "I", Cond.fieldLink RX2 25 "IdleDispatcher$Server" "firstJob" "I", Cond.fieldLink RX2 28 "IdleDispatcher$Server" "lastJob" "I", Cond.methodLink RX3 63 yX0_copyFrom, Cond.instanceMethod yX0_copyFrom, Cond.selects RX0 yX0_copyFrom yX0_copyFrom, Cond.initialized RX0, Cond.code yX0_copyFrom cX0_copyFrom 2 none, Cond.fieldLink RX0 9 "IdleDispatcher$Dispatcher" "policy" "I", Cond.fieldLink RX0 15 "IdleDispatcher$Dispatcher" "pointer" "I", Cond.fieldLink RX0 18 "IdleDispatcher$Dispatcher" "idleCount" "I", Cond.fieldLink RX0 21 "IdleDispatcher$Dispatcher" "idle" "[I", Cond.methodLink RX0 28 arraycopyName]
def wsL_submit_r4 : List Cond := [Cond.native arraycopyName, Cond.static arraycopyName, Cond.initialized "java/lang/System", Cond.fieldLink RX0 25 "IdleDispatcher$Dispatcher" "known" "[I", Cond.methodLink RX3 66 yX1_copyFrom, Cond.instanceMethod yX1_copyFrom, Cond.selects RX1 yX1_copyFrom yX1_copyFrom, Cond.initialized RX1, Cond.code yX1_copyFrom cX1_copyFrom 2 none, Cond.fieldLink RX1 9 "IdleDispatcher$Jobs" "count" "I", Cond.fieldLink RX1 15 "IdleDispatcher$Jobs" "finished" "I", Cond.fieldLink RX1 18 "IdleDispatcher$Jobs" "begun" "I", Cond.fieldLink RX1 21 "IdleDispatcher$Jobs" "waitSum" "I", Cond.fieldLink RX1 24 "IdleDispatcher$Jobs" "missed" "I", Cond.fieldLink RX1 27 "IdleDispatcher$Jobs" "server" "[I", Cond.methodLink RX1 43 arraycopyName, Cond.fieldLink RX1 31 "IdleDispatcher$Jobs" "left" "[I", Cond.fieldLink RX1 34 "IdleDispatcher$Jobs" "submittedAt" "[I", Cond.fieldLink RX1 37 "IdleDispatcher$Jobs" "wait" "[I", Cond.fieldLink RX1 40 "IdleDispatcher$Jobs" "next" "[I", Cond.methodLink RX3 69 yX3_collectCandidates, Cond.instanceMethod yX3_collectCandidates, Cond.selects RX3 yX3_collectCandidates yX3_collectCandidates, Cond.code yX3_collectCandidates cX3_collectCandidates 2 none]
def wsL_submit_r5 : List Cond := [Cond.fieldLink RX3 52 "IdleDispatcher$State" "candidateCount" "I", Cond.fieldLink RX3 79 "IdleDispatcher$Server" "up" "Z", Cond.fieldLink RX3 55 "IdleDispatcher$State" "candidates" "[I", Cond.methodLink RX4 99 yX3_dispatch, Cond.instanceMethod yX3_dispatch, Cond.selects RX3 yX3_dispatch yX3_dispatch, Cond.code yX3_dispatch cX3_dispatch 4 (some .int), Cond.fieldLink RX3 86 "IdleDispatcher$Server" "length" "I", Cond.fieldLink RX3 159 "IdleDispatcher$Jobs" "missed" "I", Cond.methodLink RX3 152 yX3_takeServer, Cond.instanceMethod yX3_takeServer, Cond.selects RX3 yX3_takeServer yX3_takeServer, Cond.code yX3_takeServer cX3_takeServer 4 (some .int), Cond.fieldLink RX3 76 "IdleDispatcher$Dispatcher" "policy" "I", Cond.fieldLink RX3 116 "IdleDispatcher$Dispatcher" "pointer" "I", Cond.fieldLink RX3 125 "IdleDispatcher$Dispatcher" "known" "[I", Cond.methodLink RX3 132 yX3_certainServer, Cond.instanceMethod yX3_certainServer, Cond.selects RX3 yX3_certainServer yX3_certainServer, Cond.code yX3_certainServer cX3_certainServer 2 (some .int), Cond.fieldLink RX3 110 "IdleDispatcher$Dispatcher" "idleCount" "I", Cond.fieldLink RX3 122 "IdleDispatcher$Dispatcher" "idle" "[I", Cond.methodLink RX3 119 yX3_nextInTurn, Cond.instanceMethod yX3_nextInTurn]
def wsL_submit_r6 : List Cond := [Cond.selects RX3 yX3_nextInTurn yX3_nextInTurn, Cond.code yX3_nextInTurn cX3_nextInTurn 3 (some .int), Cond.methodLink RX3 128 yX3_leastKnown, Cond.instanceMethod yX3_leastKnown, Cond.selects RX3 yX3_leastKnown yX3_leastKnown, Cond.code yX3_leastKnown cX3_leastKnown 4 (some .int), Cond.methodLink RX3 136 yX3_drawServer, Cond.instanceMethod yX3_drawServer, Cond.selects RX3 yX3_drawServer yX3_drawServer, Cond.code yX3_drawServer cX3_drawServer 4 (some .int), Cond.methodLink RX3 107 yX3_draw, Cond.instanceMethod yX3_draw, Cond.selects RX3 yX3_draw yX3_draw, Cond.code yX3_draw cX3_draw 2 (some .int), Cond.constantLong RX3 89 (1103515245), Cond.constantLong RX3 91 (12345), Cond.constantLong RX3 93 (2147483648), Cond.constantLong RX3 95 (65536), Cond.methodLink RX3 155 yX3_anyIdle, Cond.instanceMethod yX3_anyIdle, Cond.selects RX3 yX3_anyIdle yX3_anyIdle, Cond.code yX3_anyIdle cX3_anyIdle 2 (some .boolean), Cond.methodLink RX3 166 yX2_isIdle, Cond.instanceMethod yX2_isIdle]
def wsL_submit_r7 : List Cond := [Cond.selects RX2 yX2_isIdle yX2_isIdle, Cond.code yX2_isIdle cX2_isIdle 1 (some .boolean), Cond.methodLink RX3 83 yX3_leaveIdleList, Cond.instanceMethod yX3_leaveIdleList, Cond.selects RX3 yX3_leaveIdleList yX3_leaveIdleList, Cond.code yX3_leaveIdleList cX3_leaveIdleList 3 none, Cond.fieldLink RX3 104 "IdleDispatcher$Server" "registeredAt" "I", Cond.methodLink RX3 113 yX0_removeIdle, Cond.instanceMethod yX0_removeIdle, Cond.selects RX0 yX0_removeIdle yX0_removeIdle, Cond.code yX0_removeIdle cX0_removeIdle 4 none, Cond.methodLink RX3 162 yX3_enqueue, Cond.instanceMethod yX3_enqueue, Cond.selects RX3 yX3_enqueue yX3_enqueue, Cond.code yX3_enqueue cX3_enqueue 5 none, Cond.fieldLink RX3 173 "IdleDispatcher$Server" "lastJob" "I", Cond.fieldLink RX3 176 "IdleDispatcher$Server" "firstJob" "I", Cond.fieldLink RX3 182 "IdleDispatcher$Jobs" "next" "[I", Cond.fieldLink RX3 185 "IdleDispatcher$Server" "work" "I", Cond.methodLink RX3 169 yX1_append, Cond.instanceMethod yX1_append, Cond.selects RX1 yX1_append yX1_append, Cond.code yX1_append cX1_append 5 (some .int), Cond.methodLink RX3 179 yX1_begin]
def wsL_submit_r8 : List Cond := [Cond.instanceMethod yX1_begin, Cond.selects RX1 yX1_begin yX1_begin, Cond.code yX1_begin cX1_begin 3 none]
def wsL_submit : List Cond := .codeWith yL_submit cL_submit 5 (some .int) [(0, 10, 13, 19), (0, 10, 17, 13)] :: ((wsL_submit_r1 ++ (wsL_submit_r2 ++ (wsL_submit_r3 ++ (wsL_submit_r4 ++ (wsL_submit_r5 ++ (wsL_submit_r6 ++ (wsL_submit_r7 ++ wsL_submit_r8))))))) ++ wsX40 ++ wsX30 ++ wsX10 ++ wsX20 ++ wsX00 ++ (vx_atS RX4 31 "java/lang/IllegalStateException" ["java/lang/RuntimeException", "java/lang/Exception"]).filter goodWord ++ (vx_atS RX4 188 "java/lang/IllegalArgumentException" ["java/lang/RuntimeException", "java/lang/Exception"]).filter goodWord)
def wsL_tick_r1 : List Cond := [Cond.classLink RL 19 "java/lang/IllegalArgumentException", Cond.methodLink RL 41 yX4_tick, Cond.instanceMethod yX4_tick, Cond.selects RX4 yX4_tick yX4_tick, Cond.initialized RX4, Cond.code yX4_tick cX4_tick 4 (some .int), Cond.fieldLink RX4 10 "IdleDispatcher" "state" "LIdleDispatcher$State;", Cond.fieldLink RX4 88 "IdleDispatcher$State" "jobs" "LIdleDispatcher$Jobs;", Cond.fieldLink RX4 103 "IdleDispatcher$Jobs" "finished" "I", Cond.methodLink RX4 41 yX4_requireRange, Cond.static yX4_requireRange, Cond.code yX4_requireRange cX4_requireRange 3 none, Cond.classLink RX4 184 "java/lang/IllegalArgumentException", Cond.initialized "java/lang/IllegalArgumentException", Cond.methodLink RX4 34 yX4_save, Cond.instanceMethod yX4_save, Cond.selects RX4 yX4_save yX4_save, Cond.code yX4_save cX4_save 1 none, Cond.fieldLink RX4 20 "IdleDispatcher" "savedCount" "I", Cond.fieldLink RX4 16 "IdleDispatcher" "saved" "[LIdleDispatcher$State;", Cond.methodLink RX4 177 yX4_dropOldest, Cond.instanceMethod yX4_dropOldest, Cond.selects RX4 yX4_dropOldest yX4_dropOldest, Cond.code yX4_dropOldest cX4_dropOldest 3 none]
def wsL_tick_r2 : List Cond := [Cond.methodLink RX4 180 yX3_copyFrom, Cond.instanceMethod yX3_copyFrom, Cond.selects RX3 yX3_copyFrom yX3_copyFrom, Cond.initialized RX3, Cond.code yX3_copyFrom cX3_copyFrom 3 none, Cond.fieldLink RX3 9 "IdleDispatcher$State" "now" "I", Cond.fieldLink RX3 15 "IdleDispatcher$State" "random" "J", Cond.fieldLink RX3 19 "IdleDispatcher$State" "joinMode" "I", Cond.fieldLink RX3 22 "IdleDispatcher$State" "reportPeriod" "I", Cond.fieldLink RX3 25 "IdleDispatcher$State" "serverCount" "I", Cond.fieldLink RX3 28 "IdleDispatcher$State" "dispatcherCount" "I", Cond.fieldLink RX3 33 "IdleDispatcher$State" "servers" "[LIdleDispatcher$Server;", Cond.fieldLink RX3 40 "IdleDispatcher$State" "dispatchers" "[LIdleDispatcher$Dispatcher;", Cond.fieldLink RX3 48 "IdleDispatcher$State" "jobs" "LIdleDispatcher$Jobs;", Cond.methodLink RX3 59 yX2_copyFrom, Cond.instanceMethod yX2_copyFrom, Cond.selects RX2 yX2_copyFrom yX2_copyFrom, Cond.initialized RX2, Cond.code yX2_copyFrom cX2_copyFrom 2 none, Cond.fieldLink RX2 9 "IdleDispatcher$Server" "up" "Z", Cond.fieldLink RX2 15 "IdleDispatcher$Server" "length" "I", Cond.fieldLink RX2 19 "IdleDispatcher$Server" "work" "I", Cond.fieldLink RX2 22 "IdleDispatcher$Server" "registeredAt" "I", Cond.fieldLink RX2 25 "IdleDispatcher$Server" "firstJob" "I"]
def wsL_tick_r3 : List Cond := [Cond.fieldLink RX2 28 "IdleDispatcher$Server" "lastJob" "I", Cond.methodLink RX3 63 yX0_copyFrom, Cond.instanceMethod yX0_copyFrom, Cond.selects RX0 yX0_copyFrom yX0_copyFrom, Cond.initialized RX0, Cond.code yX0_copyFrom cX0_copyFrom 2 none, Cond.fieldLink RX0 9 "IdleDispatcher$Dispatcher" "policy" "I", Cond.fieldLink RX0 15 "IdleDispatcher$Dispatcher" "pointer" "I", Cond.fieldLink RX0 18 "IdleDispatcher$Dispatcher" "idleCount" "I", Cond.fieldLink RX0 21 "IdleDispatcher$Dispatcher" "idle" "[I", Cond.methodLink RX0 28 arraycopyName, Cond.native arraycopyName, Cond.static arraycopyName, Cond.initialized "java/lang/System", Cond.fieldLink RX0 25 "IdleDispatcher$Dispatcher" "known" "[I", Cond.methodLink RX3 66 yX1_copyFrom, Cond.instanceMethod yX1_copyFrom, Cond.selects RX1 yX1_copyFrom yX1_copyFrom, Cond.initialized RX1, Cond.code yX1_copyFrom cX1_copyFrom 2 none, Cond.fieldLink RX1 9 "IdleDispatcher$Jobs" "count" "I", Cond.fieldLink RX1 15 "IdleDispatcher$Jobs" "finished" "I", Cond.fieldLink RX1 18 "IdleDispatcher$Jobs" "begun" "I", Cond.fieldLink RX1 21 "IdleDispatcher$Jobs" "waitSum" "I"]
def wsL_tick_r4 : List Cond := [Cond.fieldLink RX1 24 "IdleDispatcher$Jobs" "missed" "I", Cond.fieldLink RX1 27 "IdleDispatcher$Jobs" "server" "[I", Cond.methodLink RX1 43 arraycopyName, Cond.fieldLink RX1 31 "IdleDispatcher$Jobs" "left" "[I", Cond.fieldLink RX1 34 "IdleDispatcher$Jobs" "submittedAt" "[I", Cond.fieldLink RX1 37 "IdleDispatcher$Jobs" "wait" "[I", Cond.fieldLink RX1 40 "IdleDispatcher$Jobs" "next" "[I", Cond.methodLink RX3 69 yX3_collectCandidates, Cond.instanceMethod yX3_collectCandidates, Cond.selects RX3 yX3_collectCandidates yX3_collectCandidates, Cond.code yX3_collectCandidates cX3_collectCandidates 2 none, Cond.fieldLink RX3 52 "IdleDispatcher$State" "candidateCount" "I", Cond.fieldLink RX3 79 "IdleDispatcher$Server" "up" "Z", Cond.fieldLink RX3 55 "IdleDispatcher$State" "candidates" "[I", Cond.methodLink RX4 106 yX3_passTick, Cond.instanceMethod yX3_passTick, Cond.selects RX3 yX3_passTick yX3_passTick, Cond.code yX3_passTick cX3_passTick 2 none, Cond.methodLink RX3 188 yX3_serve, Cond.instanceMethod yX3_serve, Cond.selects RX3 yX3_serve yX3_serve, Cond.code yX3_serve cX3_serve 4 none, Cond.fieldLink RX3 176 "IdleDispatcher$Server" "firstJob" "I", Cond.fieldLink RX3 185 "IdleDispatcher$Server" "work" "I"]
def wsL_tick_r5 : List Cond := [Cond.fieldLink RX3 194 "IdleDispatcher$Jobs" "left" "[I", Cond.methodLink RX3 197 yX3_finish, Cond.instanceMethod yX3_finish, Cond.selects RX3 yX3_finish yX3_finish, Cond.code yX3_finish cX3_finish 3 none, Cond.fieldLink RX3 201 "IdleDispatcher$Jobs" "finished" "I", Cond.fieldLink RX3 86 "IdleDispatcher$Server" "length" "I", Cond.fieldLink RX3 182 "IdleDispatcher$Jobs" "next" "[I", Cond.fieldLink RX3 173 "IdleDispatcher$Server" "lastJob" "I", Cond.methodLink RX3 179 yX1_begin, Cond.instanceMethod yX1_begin, Cond.selects RX1 yX1_begin yX1_begin, Cond.code yX1_begin cX1_begin 3 none, Cond.methodLink RX3 166 yX2_isIdle, Cond.instanceMethod yX2_isIdle, Cond.selects RX2 yX2_isIdle yX2_isIdle, Cond.code yX2_isIdle cX2_isIdle 1 (some .boolean), Cond.methodLink RX3 72 yX3_register, Cond.instanceMethod yX3_register, Cond.selects RX3 yX3_register yX3_register, Cond.code yX3_register cX3_register 3 none, Cond.fieldLink RX3 104 "IdleDispatcher$Server" "registeredAt" "I", Cond.methodLink RX3 97 yX3_chooseList, Cond.instanceMethod yX3_chooseList]
def wsL_tick_r6 : List Cond := [Cond.selects RX3 yX3_chooseList yX3_chooseList, Cond.code yX3_chooseList cX3_chooseList 4 (some .int), Cond.fieldLink RX3 110 "IdleDispatcher$Dispatcher" "idleCount" "I", Cond.methodLink RX3 107 yX3_draw, Cond.instanceMethod yX3_draw, Cond.selects RX3 yX3_draw yX3_draw, Cond.code yX3_draw cX3_draw 2 (some .int), Cond.constantLong RX3 89 (1103515245), Cond.constantLong RX3 91 (12345), Cond.constantLong RX3 93 (2147483648), Cond.constantLong RX3 95 (65536), Cond.methodLink RX3 101 yX0_appendIdle, Cond.instanceMethod yX0_appendIdle, Cond.selects RX0 yX0_appendIdle yX0_appendIdle, Cond.code yX0_appendIdle cX0_appendIdle 2 none, Cond.methodLink RX3 191 yX3_report, Cond.instanceMethod yX3_report, Cond.selects RX3 yX3_report yX3_report, Cond.code yX3_report cX3_report 3 none, Cond.fieldLink RX3 125 "IdleDispatcher$Dispatcher" "known" "[I"]
def wsL_tick : List Cond := .codeWith yL_tick cL_tick 4 (some .int) [(0, 9, 12, 19)] :: ((wsL_tick_r1 ++ (wsL_tick_r2 ++ (wsL_tick_r3 ++ (wsL_tick_r4 ++ (wsL_tick_r5 ++ wsL_tick_r6))))) ++ wsX40 ++ wsX30 ++ wsX10 ++ wsX20 ++ wsX00 ++ (vx_atS RX4 188 "java/lang/IllegalArgumentException" ["java/lang/RuntimeException", "java/lang/Exception"]).filter goodWord)
def wsL_length : List Cond := .codeWith yL_length cL_length 4 (some .int) [(0, 9, 12, 19)] :: ([.classLink RL 19 "java/lang/IllegalArgumentException", .methodLink RL 44 yX4_length, .instanceMethod yX4_length, .selects RX4 yX4_length yX4_length, .initialized RX4, .code yX4_length cX4_length 2 (some .int), .fieldLink RX4 10 "IdleDispatcher" "state" "LIdleDispatcher$State;", .fieldLink RX4 109 "IdleDispatcher$State" "servers" "[LIdleDispatcher$Server;", .fieldLink RX4 113 "IdleDispatcher$Server" "length" "I", .methodLink RX4 78 yX4_requireServer, .instanceMethod yX4_requireServer, .selects RX4 yX4_requireServer yX4_requireServer, .code yX4_requireServer cX4_requireServer 2 none, .classLink RX4 184 "java/lang/IllegalArgumentException", .initialized "java/lang/IllegalArgumentException", .fieldLink RX4 24 "IdleDispatcher$State" "serverCount" "I"] ++ wsX40 ++ wsX30 ++ wsX20 ++ (vx_atS RX4 188 "java/lang/IllegalArgumentException" ["java/lang/RuntimeException", "java/lang/Exception"]).filter goodWord)
def wsL_work : List Cond := .codeWith yL_work cL_work 4 (some .int) [(0, 9, 12, 19)] :: ([.classLink RL 19 "java/lang/IllegalArgumentException", .methodLink RL 47 yX4_work, .instanceMethod yX4_work, .selects RX4 yX4_work yX4_work, .initialized RX4, .code yX4_work cX4_work 2 (some .int), .fieldLink RX4 10 "IdleDispatcher" "state" "LIdleDispatcher$State;", .fieldLink RX4 109 "IdleDispatcher$State" "servers" "[LIdleDispatcher$Server;", .fieldLink RX4 118 "IdleDispatcher$Server" "work" "I", .methodLink RX4 78 yX4_requireServer, .instanceMethod yX4_requireServer, .selects RX4 yX4_requireServer yX4_requireServer, .code yX4_requireServer cX4_requireServer 2 none, .classLink RX4 184 "java/lang/IllegalArgumentException", .initialized "java/lang/IllegalArgumentException", .fieldLink RX4 24 "IdleDispatcher$State" "serverCount" "I"] ++ wsX40 ++ wsX30 ++ wsX20 ++ (vx_atS RX4 188 "java/lang/IllegalArgumentException" ["java/lang/RuntimeException", "java/lang/Exception"]).filter goodWord)
def wsL_registeredAt : List Cond := .codeWith yL_registeredAt cL_registeredAt 4 (some .int) [(0, 9, 12, 19)] :: ([.classLink RL 19 "java/lang/IllegalArgumentException", .methodLink RL 50 yX4_registeredAt, .instanceMethod yX4_registeredAt, .selects RX4 yX4_registeredAt yX4_registeredAt, .initialized RX4, .code yX4_registeredAt cX4_registeredAt 2 (some .int), .fieldLink RX4 10 "IdleDispatcher" "state" "LIdleDispatcher$State;", .fieldLink RX4 109 "IdleDispatcher$State" "servers" "[LIdleDispatcher$Server;", .fieldLink RX4 121 "IdleDispatcher$Server" "registeredAt" "I", .methodLink RX4 78 yX4_requireServer, .instanceMethod yX4_requireServer, .selects RX4 yX4_requireServer yX4_requireServer, .code yX4_requireServer cX4_requireServer 2 none, .classLink RX4 184 "java/lang/IllegalArgumentException", .initialized "java/lang/IllegalArgumentException", .fieldLink RX4 24 "IdleDispatcher$State" "serverCount" "I"] ++ wsX40 ++ wsX30 ++ wsX20 ++ (vx_atS RX4 188 "java/lang/IllegalArgumentException" ["java/lang/RuntimeException", "java/lang/Exception"]).filter goodWord)
def wsL_idleCount : List Cond := .codeWith yL_idleCount cL_idleCount 4 (some .int) [(0, 9, 12, 19)] :: ([.classLink RL 19 "java/lang/IllegalArgumentException", .methodLink RL 53 yX4_idleCount, .instanceMethod yX4_idleCount, .selects RX4 yX4_idleCount yX4_idleCount, .initialized RX4, .code yX4_idleCount cX4_idleCount 2 (some .int), .fieldLink RX4 10 "IdleDispatcher" "state" "LIdleDispatcher$State;", .fieldLink RX4 58 "IdleDispatcher$State" "dispatchers" "[LIdleDispatcher$Dispatcher;", .fieldLink RX4 124 "IdleDispatcher$Dispatcher" "idleCount" "I", .methodLink RX4 54 yX4_requireDispatcher, .instanceMethod yX4_requireDispatcher, .selects RX4 yX4_requireDispatcher yX4_requireDispatcher, .code yX4_requireDispatcher cX4_requireDispatcher 2 none, .classLink RX4 184 "java/lang/IllegalArgumentException", .initialized "java/lang/IllegalArgumentException", .fieldLink RX4 45 "IdleDispatcher$State" "dispatcherCount" "I"] ++ wsX40 ++ wsX30 ++ wsX00 ++ (vx_atS RX4 188 "java/lang/IllegalArgumentException" ["java/lang/RuntimeException", "java/lang/Exception"]).filter goodWord)
def wsL_idleAt : List Cond := .codeWith yL_idleAt cL_idleAt 5 (some .int) [(0, 10, 13, 19), (0, 10, 17, 59)] :: ([.classLink RL 19 "java/lang/IllegalArgumentException", .classLink RL 59 "java/lang/IndexOutOfBoundsException", .methodLink RL 56 yX4_idleAt, .instanceMethod yX4_idleAt, .selects RX4 yX4_idleAt yX4_idleAt, .initialized RX4, .code yX4_idleAt cX4_idleAt 3 (some .int), .fieldLink RX4 10 "IdleDispatcher" "state" "LIdleDispatcher$State;", .fieldLink RX4 58 "IdleDispatcher$State" "dispatchers" "[LIdleDispatcher$Dispatcher;", .fieldLink RX4 124 "IdleDispatcher$Dispatcher" "idleCount" "I", .fieldLink RX4 131 "IdleDispatcher$Dispatcher" "idle" "[I", .methodLink RX4 54 yX4_requireDispatcher, .instanceMethod yX4_requireDispatcher, .selects RX4 yX4_requireDispatcher yX4_requireDispatcher, .code yX4_requireDispatcher cX4_requireDispatcher 2 none, .classLink RX4 184 "java/lang/IllegalArgumentException", .initialized "java/lang/IllegalArgumentException", .fieldLink RX4 45 "IdleDispatcher$State" "dispatcherCount" "I", .methodLink RX4 127 yX4_requireIndex, .static yX4_requireIndex, .code yX4_requireIndex cX4_requireIndex 2 none, .classLink RX4 198 "java/lang/IndexOutOfBoundsException", .initialized "java/lang/IndexOutOfBoundsException"] ++ wsX40 ++ wsX30 ++ wsX00 ++ (vx_atS RX4 188 "java/lang/IllegalArgumentException" ["java/lang/RuntimeException", "java/lang/Exception"]).filter goodWord ++ (vx_atS RX4 202 "java/lang/IndexOutOfBoundsException" ["java/lang/RuntimeException", "java/lang/Exception"]).filter goodWord)
def wsL_knownLength : List Cond := .codeWith yL_knownLength cL_knownLength 5 (some .int) [(0, 10, 13, 19)] :: ([.classLink RL 19 "java/lang/IllegalArgumentException", .methodLink RL 61 yX4_knownLength, .instanceMethod yX4_knownLength, .selects RX4 yX4_knownLength yX4_knownLength, .initialized RX4, .code yX4_knownLength cX4_knownLength 3 (some .int), .fieldLink RX4 10 "IdleDispatcher" "state" "LIdleDispatcher$State;", .fieldLink RX4 58 "IdleDispatcher$State" "dispatchers" "[LIdleDispatcher$Dispatcher;", .fieldLink RX4 135 "IdleDispatcher$Dispatcher" "known" "[I", .methodLink RX4 54 yX4_requireDispatcher, .instanceMethod yX4_requireDispatcher, .selects RX4 yX4_requireDispatcher yX4_requireDispatcher, .code yX4_requireDispatcher cX4_requireDispatcher 2 none, .classLink RX4 184 "java/lang/IllegalArgumentException", .initialized "java/lang/IllegalArgumentException", .fieldLink RX4 45 "IdleDispatcher$State" "dispatcherCount" "I", .methodLink RX4 78 yX4_requireServer, .instanceMethod yX4_requireServer, .selects RX4 yX4_requireServer yX4_requireServer, .code yX4_requireServer cX4_requireServer 2 none, .fieldLink RX4 24 "IdleDispatcher$State" "serverCount" "I"] ++ wsX40 ++ wsX30 ++ wsX00 ++ (vx_atS RX4 188 "java/lang/IllegalArgumentException" ["java/lang/RuntimeException", "java/lang/Exception"]).filter goodWord)
def wsL_expectedLength_r1 : List Cond := [Cond.classLink RL 19 "java/lang/IllegalArgumentException", Cond.classLink RL 13 "java/lang/IllegalStateException", Cond.methodLink RL 64 yX4_expectedLength, Cond.instanceMethod yX4_expectedLength, Cond.selects RX4 yX4_expectedLength yX4_expectedLength, Cond.initialized RX4, Cond.code yX4_expectedLength cX4_expectedLength 6 (some .int), Cond.fieldLink RX4 10 "IdleDispatcher" "state" "LIdleDispatcher$State;", Cond.methodLink RX4 54 yX4_requireDispatcher, Cond.instanceMethod yX4_requireDispatcher, Cond.selects RX4 yX4_requireDispatcher yX4_requireDispatcher, Cond.code yX4_requireDispatcher cX4_requireDispatcher 2 none, Cond.classLink RX4 184 "java/lang/IllegalArgumentException", Cond.initialized "java/lang/IllegalArgumentException", Cond.fieldLink RX4 45 "IdleDispatcher$State" "dispatcherCount" "I", Cond.methodLink RX4 41 yX4_requireRange, Cond.static yX4_requireRange, Cond.code yX4_requireRange cX4_requireRange 3 none, Cond.methodLink RX4 85 yX4_requireServerUp, Cond.instanceMethod yX4_requireServerUp, Cond.selects RX4 yX4_requireServerUp yX4_requireServerUp, Cond.code yX4_requireServerUp cX4_requireServerUp 1 none, Cond.classLink RX4 27 "java/lang/IllegalStateException", Cond.initialized "java/lang/IllegalStateException"]
def wsL_expectedLength_r2 : List Cond := [Cond.fieldLink RX4 191 "IdleDispatcher$State" "candidateCount" "I", Cond.methodLink RX4 138 yX3_sumOverOutcomes, Cond.instanceMethod yX3_sumOverOutcomes, Cond.selects RX3 yX3_sumOverOutcomes yX3_sumOverOutcomes, Cond.initialized RX3, Cond.code yX3_sumOverOutcomes cX3_sumOverOutcomes 4 (some .int), Cond.fieldLink RX3 40 "IdleDispatcher$State" "dispatchers" "[LIdleDispatcher$Dispatcher;", Cond.fieldLink RX3 33 "IdleDispatcher$State" "servers" "[LIdleDispatcher$Server;", Cond.fieldLink RX3 86 "IdleDispatcher$Server" "length" "I", Cond.fieldLink RX3 76 "IdleDispatcher$Dispatcher" "policy" "I", Cond.methodLink RX3 132 yX3_certainServer, Cond.instanceMethod yX3_certainServer, Cond.selects RX3 yX3_certainServer yX3_certainServer, Cond.code yX3_certainServer cX3_certainServer 2 (some .int), Cond.fieldLink RX3 116 "IdleDispatcher$Dispatcher" "pointer" "I", Cond.fieldLink RX3 110 "IdleDispatcher$Dispatcher" "idleCount" "I", Cond.fieldLink RX3 122 "IdleDispatcher$Dispatcher" "idle" "[I", Cond.fieldLink RX3 125 "IdleDispatcher$Dispatcher" "known" "[I", Cond.methodLink RX3 119 yX3_nextInTurn, Cond.instanceMethod yX3_nextInTurn, Cond.selects RX3 yX3_nextInTurn yX3_nextInTurn, Cond.code yX3_nextInTurn cX3_nextInTurn 3 (some .int), Cond.fieldLink RX3 52 "IdleDispatcher$State" "candidateCount" "I", Cond.fieldLink RX3 55 "IdleDispatcher$State" "candidates" "[I"]
def wsL_expectedLength_r3 : List Cond := [Cond.methodLink RX3 128 yX3_leastKnown, Cond.instanceMethod yX3_leastKnown, Cond.selects RX3 yX3_leastKnown yX3_leastKnown, Cond.code yX3_leastKnown cX3_leastKnown 4 (some .int), Cond.methodLink RX3 139 yX3_sumOverPairs, Cond.instanceMethod yX3_sumOverPairs, Cond.selects RX3 yX3_sumOverPairs yX3_sumOverPairs, Cond.code yX3_sumOverPairs cX3_sumOverPairs 5 (some .int), Cond.methodLink RX3 146 Lib.Math.min.name, Cond.static Lib.Math.min.name, Cond.initialized "java/lang/Math", Cond.code Lib.Math.min.name Lib.Math.min.code 2 (some .int), Cond.methodLink RX3 143 yX3_sumOverCandidates, Cond.instanceMethod yX3_sumOverCandidates, Cond.selects RX3 yX3_sumOverCandidates yX3_sumOverCandidates, Cond.code yX3_sumOverCandidates cX3_sumOverCandidates 3 (some .int), Cond.methodLink RX4 141 yX3_countOutcomes, Cond.instanceMethod yX3_countOutcomes, Cond.selects RX3 yX3_countOutcomes yX3_countOutcomes, Cond.code yX3_countOutcomes cX3_countOutcomes 3 (some .int), Cond.methodLink RX4 144 yX4_commonDivisor, Cond.static yX4_commonDivisor, Cond.code yX4_commonDivisor cX4_commonDivisor 3 (some .int)]
def wsL_expectedLength : List Cond := .codeWith yL_expectedLength cL_expectedLength 5 (some .int) [(0, 10, 13, 19), (0, 10, 17, 13)] :: ((wsL_expectedLength_r1 ++ (wsL_expectedLength_r2 ++ wsL_expectedLength_r3)) ++ wsX40 ++ wsX30 ++ wsX20 ++ wsX00 ++ (vx_atS RX4 188 "java/lang/IllegalArgumentException" ["java/lang/RuntimeException", "java/lang/Exception"]).filter goodWord ++ (vx_atS RX4 31 "java/lang/IllegalStateException" ["java/lang/RuntimeException", "java/lang/Exception"]).filter goodWord)
def wsL_serverOf : List Cond := .codeWith yL_serverOf cL_serverOf 4 (some .int) [(0, 9, 12, 59)] :: ([.classLink RL 59 "java/lang/IndexOutOfBoundsException", .methodLink RL 67 yX4_serverOf, .instanceMethod yX4_serverOf, .selects RX4 yX4_serverOf yX4_serverOf, .initialized RX4, .code yX4_serverOf cX4_serverOf 2 (some .int), .fieldLink RX4 10 "IdleDispatcher" "state" "LIdleDispatcher$State;", .fieldLink RX4 88 "IdleDispatcher$State" "jobs" "LIdleDispatcher$Jobs;", .fieldLink RX4 92 "IdleDispatcher$Jobs" "count" "I", .fieldLink RX4 147 "IdleDispatcher$Jobs" "server" "[I", .methodLink RX4 127 yX4_requireIndex, .static yX4_requireIndex, .code yX4_requireIndex cX4_requireIndex 2 none, .classLink RX4 198 "java/lang/IndexOutOfBoundsException", .initialized "java/lang/IndexOutOfBoundsException"] ++ wsX40 ++ wsX30 ++ wsX10 ++ (vx_atS RX4 202 "java/lang/IndexOutOfBoundsException" ["java/lang/RuntimeException", "java/lang/Exception"]).filter goodWord)
def wsL_waitOf : List Cond := .codeWith yL_waitOf cL_waitOf 4 (some .int) [(0, 9, 12, 59)] :: ([.classLink RL 59 "java/lang/IndexOutOfBoundsException", .methodLink RL 70 yX4_waitOf, .instanceMethod yX4_waitOf, .selects RX4 yX4_waitOf yX4_waitOf, .initialized RX4, .code yX4_waitOf cX4_waitOf 2 (some .int), .fieldLink RX4 10 "IdleDispatcher" "state" "LIdleDispatcher$State;", .fieldLink RX4 88 "IdleDispatcher$State" "jobs" "LIdleDispatcher$Jobs;", .fieldLink RX4 92 "IdleDispatcher$Jobs" "count" "I", .fieldLink RX4 150 "IdleDispatcher$Jobs" "wait" "[I", .methodLink RX4 127 yX4_requireIndex, .static yX4_requireIndex, .code yX4_requireIndex cX4_requireIndex 2 none, .classLink RX4 198 "java/lang/IndexOutOfBoundsException", .initialized "java/lang/IndexOutOfBoundsException"] ++ wsX40 ++ wsX30 ++ wsX10 ++ (vx_atS RX4 202 "java/lang/IndexOutOfBoundsException" ["java/lang/RuntimeException", "java/lang/Exception"]).filter goodWord)
def wsL_undo : List Cond := .codeWith yL_undo cL_undo 3 (some .int) [(0, 8, 11, 13)] :: ([.classLink RL 13 "java/lang/IllegalStateException", .methodLink RL 73 yX4_undo, .instanceMethod yX4_undo, .selects RX4 yX4_undo yX4_undo, .initialized RX4, .code yX4_undo cX4_undo 2 (some .int), .classLink RX4 27 "java/lang/IllegalStateException", .initialized "java/lang/IllegalStateException", .fieldLink RX4 20 "IdleDispatcher" "savedCount" "I", .fieldLink RX4 10 "IdleDispatcher" "state" "LIdleDispatcher$State;", .fieldLink RX4 16 "IdleDispatcher" "saved" "[LIdleDispatcher$State;"] ++ wsX40 ++ (vx_atS RX4 31 "java/lang/IllegalStateException" ["java/lang/RuntimeException", "java/lang/Exception"]).filter goodWord)
def wsL_law0_r1 : List Cond := [Cond.classLink RL 8 RX4, Cond.instantiable RX4 3, Cond.initialized RX4, Cond.classLink RL 77 RX5, Cond.instantiable RX5 6, Cond.initialized RX5, Cond.arrayClass .long, Cond.methodLink RL 76 yX4_init, Cond.instanceMethod yX4_init, Cond.code yX4_init cX4_init 2 none, Cond.methodLink RX4 1 objectInit, Cond.instanceMethod objectInit, Cond.code objectInit ⟨#[0xb1]⟩ 1 none, Cond.classLink RX4 7 RX3, Cond.instantiable RX3 11, Cond.initialized RX3, Cond.fieldLink RX4 10 "IdleDispatcher" "state" "LIdleDispatcher$State;", Cond.fieldLink RX4 16 "IdleDispatcher" "saved" "[LIdleDispatcher$State;", Cond.fieldLink RX4 20 "IdleDispatcher" "savedCount" "I", Cond.methodLink RX4 9 yX3_init, Cond.instanceMethod yX3_init, Cond.code yX3_init cX3_init 2 none, Cond.methodLink RX3 3 objectInit, Cond.fieldLink RX3 9 "IdleDispatcher$State" "now" "I"]
def wsL_law0_r2 : List Cond := [Cond.fieldLink RX3 15 "IdleDispatcher$State" "random" "J", Cond.fieldLink RX3 19 "IdleDispatcher$State" "joinMode" "I", Cond.fieldLink RX3 22 "IdleDispatcher$State" "reportPeriod" "I", Cond.fieldLink RX3 25 "IdleDispatcher$State" "serverCount" "I", Cond.fieldLink RX3 28 "IdleDispatcher$State" "dispatcherCount" "I", Cond.classLink RX3 31 RX2, Cond.fieldLink RX3 33 "IdleDispatcher$State" "servers" "[LIdleDispatcher$Server;", Cond.instantiable RX2 6, Cond.initialized RX2, Cond.classLink RX3 38 RX0, Cond.fieldLink RX3 40 "IdleDispatcher$State" "dispatchers" "[LIdleDispatcher$Dispatcher;", Cond.instantiable RX0 5, Cond.initialized RX0, Cond.classLink RX3 45 RX1, Cond.instantiable RX1 10, Cond.initialized RX1, Cond.fieldLink RX3 48 "IdleDispatcher$State" "jobs" "LIdleDispatcher$Jobs;", Cond.fieldLink RX3 52 "IdleDispatcher$State" "candidateCount" "I", Cond.arrayClass .int, Cond.fieldLink RX3 55 "IdleDispatcher$State" "candidates" "[I", Cond.methodLink RX3 37 yX2_init, Cond.instanceMethod yX2_init, Cond.code yX2_init cX2_init 1 none, Cond.methodLink RX2 3 objectInit]
def wsL_law0_r3 : List Cond := [Cond.fieldLink RX2 9 "IdleDispatcher$Server" "up" "Z", Cond.fieldLink RX2 15 "IdleDispatcher$Server" "length" "I", Cond.fieldLink RX2 19 "IdleDispatcher$Server" "work" "I", Cond.fieldLink RX2 22 "IdleDispatcher$Server" "registeredAt" "I", Cond.fieldLink RX2 25 "IdleDispatcher$Server" "firstJob" "I", Cond.fieldLink RX2 28 "IdleDispatcher$Server" "lastJob" "I", Cond.methodLink RX3 44 yX0_init, Cond.instanceMethod yX0_init, Cond.code yX0_init cX0_init 1 none, Cond.methodLink RX0 3 objectInit, Cond.fieldLink RX0 9 "IdleDispatcher$Dispatcher" "policy" "I", Cond.fieldLink RX0 15 "IdleDispatcher$Dispatcher" "pointer" "I", Cond.fieldLink RX0 18 "IdleDispatcher$Dispatcher" "idleCount" "I", Cond.fieldLink RX0 21 "IdleDispatcher$Dispatcher" "idle" "[I", Cond.fieldLink RX0 25 "IdleDispatcher$Dispatcher" "known" "[I", Cond.methodLink RX3 47 yX1_init, Cond.instanceMethod yX1_init, Cond.code yX1_init cX1_init 1 none, Cond.methodLink RX1 3 objectInit, Cond.fieldLink RX1 9 "IdleDispatcher$Jobs" "count" "I", Cond.fieldLink RX1 15 "IdleDispatcher$Jobs" "finished" "I", Cond.fieldLink RX1 18 "IdleDispatcher$Jobs" "begun" "I", Cond.fieldLink RX1 21 "IdleDispatcher$Jobs" "waitSum" "I", Cond.fieldLink RX1 24 "IdleDispatcher$Jobs" "missed" "I"]
def wsL_law0_r4 : List Cond := [Cond.fieldLink RX1 27 "IdleDispatcher$Jobs" "server" "[I", Cond.fieldLink RX1 31 "IdleDispatcher$Jobs" "left" "[I", Cond.fieldLink RX1 34 "IdleDispatcher$Jobs" "submittedAt" "[I", Cond.fieldLink RX1 37 "IdleDispatcher$Jobs" "wait" "[I", Cond.fieldLink RX1 40 "IdleDispatcher$Jobs" "next" "[I", Cond.methodLink RL 79 yX5_init, Cond.instanceMethod yX5_init, Cond.code yX5_init cX5_init 1 none, Cond.methodLink RX5 1 objectInit, Cond.fieldLink RX5 7 "IdleDispatcherModel" "now" "[I", Cond.fieldLink RX5 13 "IdleDispatcherModel" "history" "[I", Cond.fieldLink RX5 16 "IdleDispatcherModel" "candidates" "[I", Cond.methodLink RL 80 yL_addServer, Cond.static yL_addServer, Cond.initialized RL, Cond.codeWith yL_addServer cL_addServer 3 (some .int) [(0, 8, 11, 13)], Cond.classLink RL 13 "java/lang/IllegalStateException", Cond.methodLink RL 7 yX4_addServer, Cond.instanceMethod yX4_addServer, Cond.selects RX4 yX4_addServer yX4_addServer, Cond.code yX4_addServer cX4_addServer 1 (some .int), Cond.classLink RX4 27 "java/lang/IllegalStateException", Cond.initialized "java/lang/IllegalStateException", Cond.fieldLink RX4 24 "IdleDispatcher$State" "serverCount" "I"]
def wsL_law0_r5 : List Cond := [Cond.methodLink RX4 34 yX4_save, Cond.instanceMethod yX4_save, Cond.selects RX4 yX4_save yX4_save, Cond.code yX4_save cX4_save 1 none, Cond.methodLink RX4 177 yX4_dropOldest, Cond.instanceMethod yX4_dropOldest, Cond.selects RX4 yX4_dropOldest yX4_dropOldest, Cond.code yX4_dropOldest cX4_dropOldest 3 none, Cond.methodLink RX4 180 yX3_copyFrom, Cond.instanceMethod yX3_copyFrom, Cond.selects RX3 yX3_copyFrom yX3_copyFrom, Cond.code yX3_copyFrom cX3_copyFrom 3 none, Cond.methodLink RX3 59 yX2_copyFrom, Cond.instanceMethod yX2_copyFrom, Cond.selects RX2 yX2_copyFrom yX2_copyFrom, Cond.code yX2_copyFrom cX2_copyFrom 2 none, Cond.methodLink RX3 63 yX0_copyFrom, Cond.instanceMethod yX0_copyFrom, Cond.selects RX0 yX0_copyFrom yX0_copyFrom, Cond.code yX0_copyFrom cX0_copyFrom 2 none, Cond.methodLink RX0 28 arraycopyName, Cond.native arraycopyName, Cond.static arraycopyName, Cond.initialized "java/lang/System"]
def wsL_law0_r6 : List Cond := [Cond.methodLink RX3 66 yX1_copyFrom, Cond.instanceMethod yX1_copyFrom, Cond.selects RX1 yX1_copyFrom yX1_copyFrom, Cond.code yX1_copyFrom cX1_copyFrom 2 none, Cond.methodLink RX1 43 arraycopyName, Cond.methodLink RX3 69 yX3_collectCandidates, Cond.instanceMethod yX3_collectCandidates, Cond.selects RX3 yX3_collectCandidates yX3_collectCandidates, Cond.code yX3_collectCandidates cX3_collectCandidates 2 none, Cond.fieldLink RX3 79 "IdleDispatcher$Server" "up" "Z", Cond.methodLink RX4 37 yX3_openServer, Cond.instanceMethod yX3_openServer, Cond.selects RX3 yX3_openServer yX3_openServer, Cond.code yX3_openServer cX3_openServer 2 (some .int), Cond.methodLink RX3 72 yX3_register, Cond.instanceMethod yX3_register, Cond.selects RX3 yX3_register yX3_register, Cond.code yX3_register cX3_register 3 none, Cond.fieldLink RX3 104 "IdleDispatcher$Server" "registeredAt" "I", Cond.methodLink RX3 97 yX3_chooseList, Cond.instanceMethod yX3_chooseList, Cond.selects RX3 yX3_chooseList yX3_chooseList, Cond.code yX3_chooseList cX3_chooseList 4 (some .int), Cond.fieldLink RX3 110 "IdleDispatcher$Dispatcher" "idleCount" "I"]
def wsL_law0_r7 : List Cond := [Cond.methodLink RX3 107 yX3_draw, Cond.instanceMethod yX3_draw, Cond.selects RX3 yX3_draw yX3_draw, Cond.code yX3_draw cX3_draw 2 (some .int), Cond.constantLong RX3 89 (1103515245), Cond.constantLong RX3 91 (12345), Cond.constantLong RX3 93 (2147483648), Cond.constantLong RX3 95 (65536), Cond.methodLink RX3 101 yX0_appendIdle, Cond.instanceMethod yX0_appendIdle, Cond.selects RX0 yX0_appendIdle yX0_appendIdle, Cond.code yX0_appendIdle cX0_appendIdle 2 none, Cond.methodLink RL 85 yX5_addServer, Cond.instanceMethod yX5_addServer, Cond.selects RX5 yX5_addServer yX5_addServer, Cond.code yX5_addServer cX5_addServer 3 (some .int), Cond.fieldLink RX5 19 "IdleDispatcherModel" "thrown" "I", Cond.methodLink RX5 48 yX5_refuse, Cond.instanceMethod yX5_refuse, Cond.selects RX5 yX5_refuse yX5_refuse, Cond.code yX5_refuse cX5_refuse 2 (some .int), Cond.methodLink RX5 51 yX5_save, Cond.instanceMethod yX5_save, Cond.selects RX5 yX5_save yX5_save]
def wsL_law0_r8 : List Cond := [Cond.code yX5_save cX5_save 2 none, Cond.fieldLink RX5 27 "IdleDispatcherModel" "saved" "I", Cond.methodLink RX5 54 yX5_register, Cond.instanceMethod yX5_register, Cond.selects RX5 yX5_register yX5_register, Cond.code yX5_register cX5_register 6 none, Cond.methodLink RX5 41 yX5_draw, Cond.instanceMethod yX5_draw, Cond.selects RX5 yX5_draw yX5_draw, Cond.code yX5_draw cX5_draw 2 (some .int), Cond.constantLong RX5 30 (1103515245), Cond.constantLong RX5 32 (12345), Cond.constantLong RX5 34 (2147483648), Cond.constant RX5 36 (65536), Cond.methodLink RL 86 yX5_thrown, Cond.instanceMethod yX5_thrown, Cond.selects RX5 yX5_thrown yX5_thrown, Cond.code yX5_thrown cX5_thrown 1 (some .int), Cond.methodLink RL 89 yL_addDispatcher, Cond.static yL_addDispatcher, Cond.codeWith yL_addDispatcher cL_addDispatcher 4 (some .int) [(0, 9, 12, 19), (0, 9, 15, 13)], Cond.classLink RL 19 "java/lang/IllegalArgumentException", Cond.methodLink RL 15 yX4_addDispatcher, Cond.instanceMethod yX4_addDispatcher]
def wsL_law0_r9 : List Cond := [Cond.selects RX4 yX4_addDispatcher yX4_addDispatcher, Cond.code yX4_addDispatcher cX4_addDispatcher 2 (some .int), Cond.fieldLink RX4 45 "IdleDispatcher$State" "dispatcherCount" "I", Cond.methodLink RX4 41 yX4_requireRange, Cond.static yX4_requireRange, Cond.code yX4_requireRange cX4_requireRange 3 none, Cond.classLink RX4 184 "java/lang/IllegalArgumentException", Cond.initialized "java/lang/IllegalArgumentException", Cond.methodLink RX4 50 yX3_openDispatcher, Cond.instanceMethod yX3_openDispatcher, Cond.selects RX3 yX3_openDispatcher yX3_openDispatcher, Cond.code yX3_openDispatcher cX3_openDispatcher 3 (some .int), Cond.fieldLink RX3 76 "IdleDispatcher$Dispatcher" "policy" "I", Cond.methodLink RL 92 yX5_addDispatcher, Cond.instanceMethod yX5_addDispatcher, Cond.selects RX5 yX5_addDispatcher yX5_addDispatcher, Cond.code yX5_addDispatcher cX5_addDispatcher 3 (some .int), Cond.methodLink RX5 23 yX5_in, Cond.static yX5_in, Cond.code yX5_in cX5_in 3 (some .boolean), Cond.methodLink RL 93 yL_setPolicy, Cond.static yL_setPolicy, Cond.codeWith yL_setPolicy cL_setPolicy 5 (some .int) [(0, 10, 13, 19)], Cond.methodLink RL 21 yX4_setPolicy]
def wsL_law0_r10 : List Cond := [Cond.instanceMethod yX4_setPolicy, Cond.selects RX4 yX4_setPolicy yX4_setPolicy, Cond.code yX4_setPolicy cX4_setPolicy 4 (some .int), Cond.fieldLink RX4 58 "IdleDispatcher$State" "dispatchers" "[LIdleDispatcher$Dispatcher;", Cond.fieldLink RX4 62 "IdleDispatcher$Dispatcher" "policy" "I", Cond.methodLink RX4 54 yX4_requireDispatcher, Cond.instanceMethod yX4_requireDispatcher, Cond.selects RX4 yX4_requireDispatcher yX4_requireDispatcher, Cond.code yX4_requireDispatcher cX4_requireDispatcher 2 none, Cond.methodLink RL 96 yX5_setPolicy, Cond.instanceMethod yX5_setPolicy, Cond.selects RX5 yX5_setPolicy yX5_setPolicy, Cond.code yX5_setPolicy cX5_setPolicy 4 (some .int), Cond.methodLink RX5 58 yX5_isDispatcher, Cond.instanceMethod yX5_isDispatcher, Cond.selects RX5 yX5_isDispatcher yX5_isDispatcher, Cond.code yX5_isDispatcher cX5_isDispatcher 2 (some .boolean), Cond.methodLink RL 97 yL_setJoinMode, Cond.static yL_setJoinMode, Cond.codeWith yL_setJoinMode cL_setJoinMode 4 (some .int) [(0, 9, 12, 19)], Cond.methodLink RL 25 yX4_setJoinMode, Cond.instanceMethod yX4_setJoinMode, Cond.selects RX4 yX4_setJoinMode yX4_setJoinMode, Cond.code yX4_setJoinMode cX4_setJoinMode 3 (some .int)]
def wsL_law0_r11 : List Cond := [Cond.fieldLink RX4 67 "IdleDispatcher$State" "joinMode" "I", Cond.methodLink RL 99 yX5_setJoinMode, Cond.instanceMethod yX5_setJoinMode, Cond.selects RX5 yX5_setJoinMode yX5_setJoinMode, Cond.code yX5_setJoinMode cX5_setJoinMode 3 (some .int), Cond.methodLink RL 100 yL_setReportPeriod, Cond.static yL_setReportPeriod, Cond.codeWith yL_setReportPeriod cL_setReportPeriod 4 (some .int) [(0, 9, 12, 19)], Cond.methodLink RL 28 yX4_setReportPeriod, Cond.instanceMethod yX4_setReportPeriod, Cond.selects RX4 yX4_setReportPeriod yX4_setReportPeriod, Cond.code yX4_setReportPeriod cX4_setReportPeriod 3 (some .int), Cond.fieldLink RX4 70 "IdleDispatcher$State" "reportPeriod" "I", Cond.methodLink RL 102 yX5_setReportPeriod, Cond.instanceMethod yX5_setReportPeriod, Cond.selects RX5 yX5_setReportPeriod yX5_setReportPeriod, Cond.code yX5_setReportPeriod cX5_setReportPeriod 3 (some .int), Cond.methodLink RL 103 yL_setRandom, Cond.static yL_setRandom, Cond.codeWith yL_setRandom cL_setRandom 4 (some .int) [(0, 9, 12, 19)], Cond.methodLink RL 31 yX4_setRandom, Cond.instanceMethod yX4_setRandom, Cond.selects RX4 yX4_setRandom yX4_setRandom, Cond.code yX4_setRandom cX4_setRandom 2 (some .int)]
def wsL_law0_r12 : List Cond := [Cond.constant RX4 73 (999999), Cond.fieldLink RX4 74 "IdleDispatcher$State" "random" "J", Cond.methodLink RL 105 yX5_setRandom, Cond.instanceMethod yX5_setRandom, Cond.selects RX5 yX5_setRandom yX5_setRandom, Cond.code yX5_setRandom cX5_setRandom 2 (some .int), Cond.constant RX5 62 (999999), Cond.methodLink RL 106 yL_setUp, Cond.static yL_setUp, Cond.codeWith yL_setUp cL_setUp 5 (some .int) [(0, 17, 20, 19)], Cond.methodLink RL 34 yX4_setUp, Cond.instanceMethod yX4_setUp, Cond.selects RX4 yX4_setUp yX4_setUp, Cond.code yX4_setUp cX4_setUp 3 (some .boolean), Cond.methodLink RX4 78 yX4_requireServer, Cond.instanceMethod yX4_requireServer, Cond.selects RX4 yX4_requireServer yX4_requireServer, Cond.code yX4_requireServer cX4_requireServer 2 none, Cond.methodLink RX4 81 yX3_switchServer, Cond.instanceMethod yX3_switchServer, Cond.selects RX3 yX3_switchServer yX3_switchServer, Cond.code yX3_switchServer cX3_switchServer 5 (some .boolean), Cond.fieldLink RX3 86 "IdleDispatcher$Server" "length" "I", Cond.methodLink RX3 83 yX3_leaveIdleList]
def wsL_law0_r13 : List Cond := [Cond.instanceMethod yX3_leaveIdleList, Cond.selects RX3 yX3_leaveIdleList yX3_leaveIdleList, Cond.code yX3_leaveIdleList cX3_leaveIdleList 3 none, Cond.methodLink RX3 113 yX0_removeIdle, Cond.instanceMethod yX0_removeIdle, Cond.selects RX0 yX0_removeIdle yX0_removeIdle, Cond.code yX0_removeIdle cX0_removeIdle 4 none, Cond.methodLink RL 109 yX5_setUp, Cond.instanceMethod yX5_setUp, Cond.selects RX5 yX5_setUp yX5_setUp, Cond.code yX5_setUp cX5_setUp 4 (some .boolean), Cond.methodLink RX5 63 yX5_isServer, Cond.instanceMethod yX5_isServer, Cond.selects RX5 yX5_isServer yX5_isServer, Cond.code yX5_isServer cX5_isServer 2 (some .boolean), Cond.methodLink RX5 66 yX5_isUp, Cond.instanceMethod yX5_isUp, Cond.selects RX5 yX5_isUp yX5_isUp, Cond.code yX5_isUp cX5_isUp 2 (some .boolean), Cond.methodLink RX5 69 yX5_lengthOf, Cond.instanceMethod yX5_lengthOf, Cond.selects RX5 yX5_lengthOf yX5_lengthOf, Cond.code yX5_lengthOf cX5_lengthOf 4 (some .int), Cond.methodLink RX5 37 yX5_isQueued]
def wsL_law0_r14 : List Cond := [Cond.instanceMethod yX5_isQueued, Cond.selects RX5 yX5_isQueued yX5_isQueued, Cond.code yX5_isQueued cX5_isQueued 3 (some .boolean), Cond.methodLink RX5 72 yX5_leave, Cond.instanceMethod yX5_leave, Cond.selects RX5 yX5_leave yX5_leave, Cond.code yX5_leave cX5_leave 6 none, Cond.methodLink RX5 45 yX5_listOf, Cond.instanceMethod yX5_listOf, Cond.selects RX5 yX5_listOf yX5_listOf, Cond.code yX5_listOf cX5_listOf 5 (some .int), Cond.methodLink RL 110 yL_submit, Cond.static yL_submit, Cond.codeWith yL_submit cL_submit 5 (some .int) [(0, 10, 13, 19), (0, 10, 17, 13)], Cond.methodLink RL 38 yX4_submit, Cond.instanceMethod yX4_submit, Cond.selects RX4 yX4_submit yX4_submit, Cond.code yX4_submit cX4_submit 3 (some .int), Cond.fieldLink RX4 88 "IdleDispatcher$State" "jobs" "LIdleDispatcher$Jobs;", Cond.fieldLink RX4 92 "IdleDispatcher$Jobs" "count" "I", Cond.methodLink RX4 85 yX4_requireServerUp, Cond.instanceMethod yX4_requireServerUp, Cond.selects RX4 yX4_requireServerUp yX4_requireServerUp, Cond.code yX4_requireServerUp cX4_requireServerUp 1 none]
def wsL_law0_r15 : List Cond := [Cond.fieldLink RX4 191 "IdleDispatcher$State" "candidateCount" "I", Cond.methodLink RX4 99 yX3_dispatch, Cond.instanceMethod yX3_dispatch, Cond.selects RX3 yX3_dispatch yX3_dispatch, Cond.code yX3_dispatch cX3_dispatch 4 (some .int), Cond.fieldLink RX3 159 "IdleDispatcher$Jobs" "missed" "I", Cond.methodLink RX3 152 yX3_takeServer, Cond.instanceMethod yX3_takeServer, Cond.selects RX3 yX3_takeServer yX3_takeServer, Cond.code yX3_takeServer cX3_takeServer 4 (some .int), Cond.fieldLink RX3 116 "IdleDispatcher$Dispatcher" "pointer" "I", Cond.fieldLink RX3 125 "IdleDispatcher$Dispatcher" "known" "[I", Cond.methodLink RX3 132 yX3_certainServer, Cond.instanceMethod yX3_certainServer, Cond.selects RX3 yX3_certainServer yX3_certainServer, Cond.code yX3_certainServer cX3_certainServer 2 (some .int), Cond.fieldLink RX3 122 "IdleDispatcher$Dispatcher" "idle" "[I", Cond.methodLink RX3 119 yX3_nextInTurn, Cond.instanceMethod yX3_nextInTurn, Cond.selects RX3 yX3_nextInTurn yX3_nextInTurn, Cond.code yX3_nextInTurn cX3_nextInTurn 3 (some .int), Cond.methodLink RX3 128 yX3_leastKnown, Cond.instanceMethod yX3_leastKnown, Cond.selects RX3 yX3_leastKnown yX3_leastKnown]
def wsL_law0_r16 : List Cond := [Cond.code yX3_leastKnown cX3_leastKnown 4 (some .int), Cond.methodLink RX3 136 yX3_drawServer, Cond.instanceMethod yX3_drawServer, Cond.selects RX3 yX3_drawServer yX3_drawServer, Cond.code yX3_drawServer cX3_drawServer 4 (some .int), Cond.methodLink RX3 155 yX3_anyIdle, Cond.instanceMethod yX3_anyIdle, Cond.selects RX3 yX3_anyIdle yX3_anyIdle, Cond.code yX3_anyIdle cX3_anyIdle 2 (some .boolean), Cond.methodLink RX3 166 yX2_isIdle, Cond.instanceMethod yX2_isIdle, Cond.selects RX2 yX2_isIdle yX2_isIdle, Cond.code yX2_isIdle cX2_isIdle 1 (some .boolean), Cond.methodLink RX3 162 yX3_enqueue, Cond.instanceMethod yX3_enqueue, Cond.selects RX3 yX3_enqueue yX3_enqueue, Cond.code yX3_enqueue cX3_enqueue 5 none, Cond.fieldLink RX3 173 "IdleDispatcher$Server" "lastJob" "I", Cond.fieldLink RX3 176 "IdleDispatcher$Server" "firstJob" "I", Cond.fieldLink RX3 182 "IdleDispatcher$Jobs" "next" "[I", Cond.fieldLink RX3 185 "IdleDispatcher$Server" "work" "I", Cond.methodLink RX3 169 yX1_append, Cond.instanceMethod yX1_append, Cond.selects RX1 yX1_append yX1_append]
def wsL_law0_r17 : List Cond := [Cond.code yX1_append cX1_append 5 (some .int), Cond.methodLink RX3 179 yX1_begin, Cond.instanceMethod yX1_begin, Cond.selects RX1 yX1_begin yX1_begin, Cond.code yX1_begin cX1_begin 3 none, Cond.methodLink RL 112 yX5_submit, Cond.instanceMethod yX5_submit, Cond.selects RX5 yX5_submit yX5_submit, Cond.code yX5_submit cX5_submit 7 (some .int), Cond.methodLink RX5 85 yX5_findCandidates, Cond.instanceMethod yX5_findCandidates, Cond.selects RX5 yX5_findCandidates yX5_findCandidates, Cond.code yX5_findCandidates cX5_findCandidates 3 (some .int), Cond.methodLink RX5 89 yX5_taken, Cond.instanceMethod yX5_taken, Cond.selects RX5 yX5_taken yX5_taken, Cond.code yX5_taken cX5_taken 5 (some .int), Cond.methodLink RX5 75 yX5_nextInTurn, Cond.instanceMethod yX5_nextInTurn, Cond.selects RX5 yX5_nextInTurn yX5_nextInTurn, Cond.code yX5_nextInTurn cX5_nextInTurn 4 (some .int), Cond.methodLink RX5 79 yX5_twoChoices, Cond.instanceMethod yX5_twoChoices, Cond.selects RX5 yX5_twoChoices yX5_twoChoices]
def wsL_law0_r18 : List Cond := [Cond.code yX5_twoChoices cX5_twoChoices 4 (some .int), Cond.methodLink RX5 82 yX5_leastKnown, Cond.instanceMethod yX5_leastKnown, Cond.selects RX5 yX5_leastKnown yX5_leastKnown, Cond.code yX5_leastKnown cX5_leastKnown 6 (some .int), Cond.methodLink RX5 92 yX5_isSomeIdle, Cond.instanceMethod yX5_isSomeIdle, Cond.selects RX5 yX5_isSomeIdle yX5_isSomeIdle, Cond.code yX5_isSomeIdle cX5_isSomeIdle 4 (some .boolean), Cond.methodLink RL 113 yL_tick, Cond.static yL_tick, Cond.codeWith yL_tick cL_tick 4 (some .int) [(0, 9, 12, 19)], Cond.methodLink RL 41 yX4_tick, Cond.instanceMethod yX4_tick, Cond.selects RX4 yX4_tick yX4_tick, Cond.code yX4_tick cX4_tick 4 (some .int), Cond.fieldLink RX4 103 "IdleDispatcher$Jobs" "finished" "I", Cond.methodLink RX4 106 yX3_passTick, Cond.instanceMethod yX3_passTick, Cond.selects RX3 yX3_passTick yX3_passTick, Cond.code yX3_passTick cX3_passTick 2 none, Cond.methodLink RX3 188 yX3_serve, Cond.instanceMethod yX3_serve, Cond.selects RX3 yX3_serve yX3_serve]
def wsL_law0_r19 : List Cond := [Cond.code yX3_serve cX3_serve 4 none, Cond.fieldLink RX3 194 "IdleDispatcher$Jobs" "left" "[I", Cond.methodLink RX3 197 yX3_finish, Cond.instanceMethod yX3_finish, Cond.selects RX3 yX3_finish yX3_finish, Cond.code yX3_finish cX3_finish 3 none, Cond.fieldLink RX3 201 "IdleDispatcher$Jobs" "finished" "I", Cond.methodLink RX3 191 yX3_report, Cond.instanceMethod yX3_report, Cond.selects RX3 yX3_report yX3_report, Cond.code yX3_report cX3_report 3 none, Cond.methodLink RL 115 yX5_tick, Cond.instanceMethod yX5_tick, Cond.selects RX5 yX5_tick yX5_tick, Cond.code yX5_tick cX5_tick 5 (some .int), Cond.methodLink RX5 98 yX5_serve, Cond.instanceMethod yX5_serve, Cond.selects RX5 yX5_serve yX5_serve, Cond.code yX5_serve cX5_serve 4 none, Cond.methodLink RX5 95 yX5_firstJob, Cond.instanceMethod yX5_firstJob, Cond.selects RX5 yX5_firstJob yX5_firstJob, Cond.code yX5_firstJob cX5_firstJob 3 (some .int), Cond.methodLink RX5 101 yX5_report]
def wsL_law0_r20 : List Cond := [Cond.instanceMethod yX5_report, Cond.selects RX5 yX5_report yX5_report, Cond.code yX5_report cX5_report 4 none, Cond.methodLink RL 116 yL_length, Cond.static yL_length, Cond.codeWith yL_length cL_length 4 (some .int) [(0, 9, 12, 19)], Cond.methodLink RL 44 yX4_length, Cond.instanceMethod yX4_length, Cond.selects RX4 yX4_length yX4_length, Cond.code yX4_length cX4_length 2 (some .int), Cond.fieldLink RX4 109 "IdleDispatcher$State" "servers" "[LIdleDispatcher$Server;", Cond.fieldLink RX4 113 "IdleDispatcher$Server" "length" "I", Cond.methodLink RL 118 yX5_length, Cond.instanceMethod yX5_length, Cond.selects RX5 yX5_length yX5_length, Cond.code yX5_length cX5_length 2 (some .int), Cond.methodLink RL 119 yL_work, Cond.static yL_work, Cond.codeWith yL_work cL_work 4 (some .int) [(0, 9, 12, 19)], Cond.methodLink RL 47 yX4_work, Cond.instanceMethod yX4_work, Cond.selects RX4 yX4_work yX4_work, Cond.code yX4_work cX4_work 2 (some .int), Cond.fieldLink RX4 118 "IdleDispatcher$Server" "work" "I"]
def wsL_law0_r21 : List Cond := [Cond.methodLink RL 121 yX5_work, Cond.instanceMethod yX5_work, Cond.selects RX5 yX5_work yX5_work, Cond.code yX5_work cX5_work 2 (some .int), Cond.methodLink RX5 104 yX5_workOf, Cond.instanceMethod yX5_workOf, Cond.selects RX5 yX5_workOf yX5_workOf, Cond.code yX5_workOf cX5_workOf 4 (some .int), Cond.methodLink RL 122 yL_registeredAt, Cond.static yL_registeredAt, Cond.codeWith yL_registeredAt cL_registeredAt 4 (some .int) [(0, 9, 12, 19)], Cond.methodLink RL 50 yX4_registeredAt, Cond.instanceMethod yX4_registeredAt, Cond.selects RX4 yX4_registeredAt yX4_registeredAt, Cond.code yX4_registeredAt cX4_registeredAt 2 (some .int), Cond.fieldLink RX4 121 "IdleDispatcher$Server" "registeredAt" "I", Cond.methodLink RL 124 yX5_registeredAt, Cond.instanceMethod yX5_registeredAt, Cond.selects RX5 yX5_registeredAt yX5_registeredAt, Cond.code yX5_registeredAt cX5_registeredAt 2 (some .int), Cond.methodLink RL 125 yL_idleCount, Cond.static yL_idleCount, Cond.codeWith yL_idleCount cL_idleCount 4 (some .int) [(0, 9, 12, 19)], Cond.methodLink RL 53 yX4_idleCount]
def wsL_law0_r22 : List Cond := [Cond.instanceMethod yX4_idleCount, Cond.selects RX4 yX4_idleCount yX4_idleCount, Cond.code yX4_idleCount cX4_idleCount 2 (some .int), Cond.fieldLink RX4 124 "IdleDispatcher$Dispatcher" "idleCount" "I", Cond.methodLink RL 127 yX5_idleCount, Cond.instanceMethod yX5_idleCount, Cond.selects RX5 yX5_idleCount yX5_idleCount, Cond.code yX5_idleCount cX5_idleCount 2 (some .int), Cond.methodLink RL 128 yL_idleAt, Cond.static yL_idleAt, Cond.codeWith yL_idleAt cL_idleAt 5 (some .int) [(0, 10, 13, 19), (0, 10, 17, 59)], Cond.classLink RL 59 "java/lang/IndexOutOfBoundsException", Cond.methodLink RL 56 yX4_idleAt, Cond.instanceMethod yX4_idleAt, Cond.selects RX4 yX4_idleAt yX4_idleAt, Cond.code yX4_idleAt cX4_idleAt 3 (some .int), Cond.fieldLink RX4 131 "IdleDispatcher$Dispatcher" "idle" "[I", Cond.methodLink RX4 127 yX4_requireIndex, Cond.static yX4_requireIndex, Cond.code yX4_requireIndex cX4_requireIndex 2 none, Cond.classLink RX4 198 "java/lang/IndexOutOfBoundsException", Cond.initialized "java/lang/IndexOutOfBoundsException", Cond.methodLink RL 130 yX5_idleAt, Cond.instanceMethod yX5_idleAt]
def wsL_law0_r23 : List Cond := [Cond.selects RX5 yX5_idleAt yX5_idleAt, Cond.code yX5_idleAt cX5_idleAt 3 (some .int), Cond.methodLink RL 131 yL_knownLength, Cond.static yL_knownLength, Cond.codeWith yL_knownLength cL_knownLength 5 (some .int) [(0, 10, 13, 19)], Cond.methodLink RL 61 yX4_knownLength, Cond.instanceMethod yX4_knownLength, Cond.selects RX4 yX4_knownLength yX4_knownLength, Cond.code yX4_knownLength cX4_knownLength 3 (some .int), Cond.fieldLink RX4 135 "IdleDispatcher$Dispatcher" "known" "[I", Cond.methodLink RL 133 yX5_knownLength, Cond.instanceMethod yX5_knownLength, Cond.selects RX5 yX5_knownLength yX5_knownLength, Cond.code yX5_knownLength cX5_knownLength 3 (some .int), Cond.methodLink RL 134 yL_expectedLength, Cond.static yL_expectedLength, Cond.codeWith yL_expectedLength cL_expectedLength 5 (some .int) [(0, 10, 13, 19), (0, 10, 17, 13)], Cond.methodLink RL 64 yX4_expectedLength, Cond.instanceMethod yX4_expectedLength, Cond.selects RX4 yX4_expectedLength yX4_expectedLength, Cond.code yX4_expectedLength cX4_expectedLength 6 (some .int), Cond.methodLink RX4 138 yX3_sumOverOutcomes, Cond.instanceMethod yX3_sumOverOutcomes, Cond.selects RX3 yX3_sumOverOutcomes yX3_sumOverOutcomes]
def wsL_law0_r24 : List Cond := [Cond.code yX3_sumOverOutcomes cX3_sumOverOutcomes 4 (some .int), Cond.methodLink RX3 139 yX3_sumOverPairs, Cond.instanceMethod yX3_sumOverPairs, Cond.selects RX3 yX3_sumOverPairs yX3_sumOverPairs, Cond.code yX3_sumOverPairs cX3_sumOverPairs 5 (some .int), Cond.methodLink RX3 146 Lib.Math.min.name, Cond.static Lib.Math.min.name, Cond.initialized "java/lang/Math", Cond.code Lib.Math.min.name Lib.Math.min.code 2 (some .int), Cond.methodLink RX3 143 yX3_sumOverCandidates, Cond.instanceMethod yX3_sumOverCandidates, Cond.selects RX3 yX3_sumOverCandidates yX3_sumOverCandidates, Cond.code yX3_sumOverCandidates cX3_sumOverCandidates 3 (some .int), Cond.methodLink RX4 141 yX3_countOutcomes, Cond.instanceMethod yX3_countOutcomes, Cond.selects RX3 yX3_countOutcomes yX3_countOutcomes, Cond.code yX3_countOutcomes cX3_countOutcomes 3 (some .int), Cond.methodLink RX4 144 yX4_commonDivisor, Cond.static yX4_commonDivisor, Cond.code yX4_commonDivisor cX4_commonDivisor 3 (some .int), Cond.methodLink RL 136 yX5_expectedLength, Cond.instanceMethod yX5_expectedLength, Cond.selects RX5 yX5_expectedLength yX5_expectedLength, Cond.code yX5_expectedLength cX5_expectedLength 4 (some .int)]
def wsL_law0_r25 : List Cond := [Cond.methodLink RX5 116 yX5_expected, Cond.instanceMethod yX5_expected, Cond.selects RX5 yX5_expected yX5_expected, Cond.code yX5_expected cX5_expected 8 (some .int), Cond.methodLink RX5 107 yX5_sumOfLengths, Cond.instanceMethod yX5_sumOfLengths, Cond.selects RX5 yX5_sumOfLengths yX5_sumOfLengths, Cond.code yX5_sumOfLengths cX5_sumOfLengths 4 (some .int), Cond.methodLink RX5 110 yX5_sumOfLesser, Cond.instanceMethod yX5_sumOfLesser, Cond.selects RX5 yX5_sumOfLesser yX5_sumOfLesser, Cond.code yX5_sumOfLesser cX5_sumOfLesser 7 (some .int), Cond.methodLink RX5 113 yX5_common, Cond.static yX5_common, Cond.code yX5_common cX5_common 5 (some .int), Cond.methodLink RL 137 yX4_submitted, Cond.instanceMethod yX4_submitted, Cond.selects RX4 yX4_submitted yX4_submitted, Cond.code yX4_submitted cX4_submitted 1 (some .int), Cond.methodLink RL 140 yX5_submitted, Cond.instanceMethod yX5_submitted, Cond.selects RX5 yX5_submitted yX5_submitted, Cond.code yX5_submitted cX5_submitted 1 (some .int), Cond.methodLink RL 141 yX4_finished]
def wsL_law0_r26 : List Cond := [Cond.instanceMethod yX4_finished, Cond.selects RX4 yX4_finished yX4_finished, Cond.code yX4_finished cX4_finished 1 (some .int), Cond.methodLink RL 144 yX5_finished, Cond.instanceMethod yX5_finished, Cond.selects RX5 yX5_finished yX5_finished, Cond.code yX5_finished cX5_finished 1 (some .int), Cond.methodLink RL 145 yL_serverOf, Cond.static yL_serverOf, Cond.codeWith yL_serverOf cL_serverOf 4 (some .int) [(0, 9, 12, 59)], Cond.methodLink RL 67 yX4_serverOf, Cond.instanceMethod yX4_serverOf, Cond.selects RX4 yX4_serverOf yX4_serverOf, Cond.code yX4_serverOf cX4_serverOf 2 (some .int), Cond.fieldLink RX4 147 "IdleDispatcher$Jobs" "server" "[I", Cond.methodLink RL 147 yX5_serverOf, Cond.instanceMethod yX5_serverOf, Cond.selects RX5 yX5_serverOf yX5_serverOf, Cond.code yX5_serverOf cX5_serverOf 2 (some .int), Cond.methodLink RX5 120 yX5_isJob, Cond.instanceMethod yX5_isJob, Cond.selects RX5 yX5_isJob yX5_isJob, Cond.code yX5_isJob cX5_isJob 2 (some .boolean), Cond.methodLink RL 148 yL_waitOf]
def wsL_law0_r27 : List Cond := [Cond.static yL_waitOf, Cond.codeWith yL_waitOf cL_waitOf 4 (some .int) [(0, 9, 12, 59)], Cond.methodLink RL 70 yX4_waitOf, Cond.instanceMethod yX4_waitOf, Cond.selects RX4 yX4_waitOf yX4_waitOf, Cond.code yX4_waitOf cX4_waitOf 2 (some .int), Cond.fieldLink RX4 150 "IdleDispatcher$Jobs" "wait" "[I", Cond.methodLink RL 150 yX5_waitOf, Cond.instanceMethod yX5_waitOf, Cond.selects RX5 yX5_waitOf yX5_waitOf, Cond.code yX5_waitOf cX5_waitOf 2 (some .int), Cond.methodLink RL 151 yX4_meanWait, Cond.instanceMethod yX4_meanWait, Cond.selects RX4 yX4_meanWait yX4_meanWait, Cond.code yX4_meanWait cX4_meanWait 1 (some .double), Cond.fieldLink RX4 153 "IdleDispatcher$Jobs" "begun" "I", Cond.fieldLink RX4 156 "IdleDispatcher$Jobs" "waitSum" "I", Cond.methodLink RL 155 yX5_meanWait, Cond.instanceMethod yX5_meanWait, Cond.selects RX5 yX5_meanWait yX5_meanWait, Cond.code yX5_meanWait cX5_meanWait 2 (some .double), Cond.methodLink RX5 123 yX5_begun, Cond.instanceMethod yX5_begun, Cond.selects RX5 yX5_begun yX5_begun]
def wsL_law0_r28 : List Cond := [Cond.code yX5_begun cX5_begun 3 (some .int), Cond.methodLink RX5 126 yX5_waits, Cond.instanceMethod yX5_waits, Cond.selects RX5 yX5_waits yX5_waits, Cond.code yX5_waits cX5_waits 3 (some .int), Cond.methodLink RL 156 yX4_missed, Cond.instanceMethod yX4_missed, Cond.selects RX4 yX4_missed yX4_missed, Cond.code yX4_missed cX4_missed 1 (some .int), Cond.fieldLink RX4 159 "IdleDispatcher$Jobs" "missed" "I", Cond.methodLink RL 159 yX5_missed, Cond.instanceMethod yX5_missed, Cond.selects RX5 yX5_missed yX5_missed, Cond.code yX5_missed cX5_missed 1 (some .int), Cond.methodLink RL 160 yX4_now, Cond.instanceMethod yX4_now, Cond.selects RX4 yX4_now yX4_now, Cond.code yX4_now cX4_now 1 (some .int), Cond.fieldLink RX4 162 "IdleDispatcher$State" "now" "I", Cond.methodLink RL 163 yX5_now, Cond.instanceMethod yX5_now, Cond.selects RX5 yX5_now yX5_now, Cond.code yX5_now cX5_now 1 (some .int), Cond.methodLink RL 164 yL_undo]
def wsL_law0_r29 : List Cond := [Cond.static yL_undo, Cond.codeWith yL_undo cL_undo 3 (some .int) [(0, 8, 11, 13)], Cond.methodLink RL 73 yX4_undo, Cond.instanceMethod yX4_undo, Cond.selects RX4 yX4_undo yX4_undo, Cond.code yX4_undo cX4_undo 2 (some .int), Cond.methodLink RL 166 yX5_undo, Cond.instanceMethod yX5_undo, Cond.selects RX5 yX5_undo yX5_undo, Cond.code yX5_undo cX5_undo 2 (some .int), Cond.methodLink RL 167 yX4_digest, Cond.instanceMethod yX4_digest, Cond.selects RX4 yX4_digest yX4_digest, Cond.code yX4_digest cX4_digest 1 (some .long), Cond.constantLong RX4 167 (2753), Cond.methodLink RX4 169 yX3_mixAll, Cond.instanceMethod yX3_mixAll, Cond.selects RX3 yX3_mixAll yX3_mixAll, Cond.code yX3_mixAll cX3_mixAll 6 (some .long), Cond.fieldLink RX3 215 "IdleDispatcher$Jobs" "count" "I", Cond.fieldLink RX3 218 "IdleDispatcher$Jobs" "waitSum" "I", Cond.static yX4_mix, Cond.code yX4_mix cX4_mix 4 (some .long), Cond.constantLong RX4 203 (31)]
def wsL_law0_r30 : List Cond := [Cond.methodLink RX3 208 yX2_mixAll, Cond.instanceMethod yX2_mixAll, Cond.selects RX2 yX2_mixAll yX2_mixAll, Cond.code yX2_mixAll cX2_mixAll 5 (some .long), Cond.methodLink RX3 212 yX0_mixAll, Cond.instanceMethod yX0_mixAll, Cond.selects RX0 yX0_mixAll yX0_mixAll, Cond.code yX0_mixAll cX0_mixAll 7 (some .long), Cond.methodLink RX4 173 yX4_mix, Cond.methodLink RL 171 yX5_digest, Cond.instanceMethod yX5_digest, Cond.selects RX5 yX5_digest yX5_digest, Cond.code yX5_digest cX5_digest 1 (some .long), Cond.constantLong RX5 138 (2753), Cond.fieldLink RX5 131 "IdleDispatcherModel" "hash" "J", Cond.methodLink RX5 135 yX5_mix, Cond.instanceMethod yX5_mix, Cond.selects RX5 yX5_mix yX5_mix, Cond.code yX5_mix cX5_mix 2 none, Cond.constantLong RX5 129 (31), Cond.methodLink RX5 140 yX5_mixServers, Cond.instanceMethod yX5_mixServers, Cond.selects RX5 yX5_mixServers yX5_mixServers, Cond.code yX5_mixServers cX5_mixServers 2 none]
def wsL_law0_r31 : List Cond := [Cond.methodLink RX5 143 yX5_mixDispatchers, Cond.instanceMethod yX5_mixDispatchers, Cond.selects RX5 yX5_mixDispatchers yX5_mixDispatchers, Cond.code yX5_mixDispatchers cX5_mixDispatchers 3 none]
def wsL_law0 : List Cond := (wsL_law0_r1 ++ (wsL_law0_r2 ++ (wsL_law0_r3 ++ (wsL_law0_r4 ++ (wsL_law0_r5 ++ (wsL_law0_r6 ++ (wsL_law0_r7 ++ (wsL_law0_r8 ++ (wsL_law0_r9 ++ (wsL_law0_r10 ++ (wsL_law0_r11 ++ (wsL_law0_r12 ++ (wsL_law0_r13 ++ (wsL_law0_r14 ++ (wsL_law0_r15 ++ (wsL_law0_r16 ++ (wsL_law0_r17 ++ (wsL_law0_r18 ++ (wsL_law0_r19 ++ (wsL_law0_r20 ++ (wsL_law0_r21 ++ (wsL_law0_r22 ++ (wsL_law0_r23 ++ (wsL_law0_r24 ++ (wsL_law0_r25 ++ (wsL_law0_r26 ++ (wsL_law0_r27 ++ (wsL_law0_r28 ++ (wsL_law0_r29 ++ (wsL_law0_r30 ++ wsL_law0_r31)))))))))))))))))))))))))))))) ++ wsX40 ++ wsX50 ++ wsX30 ++ wsX20 ++ wsX00 ++ wsX10 ++ ([] : List Cond)
def wsL_law : List Cond := wsL_law0 ++ (vx_atS RX4 31 "java/lang/IllegalStateException" ["java/lang/RuntimeException", "java/lang/Exception"]).filter goodWord ++ (vx_atS RX4 188 "java/lang/IllegalArgumentException" ["java/lang/RuntimeException", "java/lang/Exception"]).filter goodWord ++ (vx_atS RX4 202 "java/lang/IndexOutOfBoundsException" ["java/lang/RuntimeException", "java/lang/Exception"]).filter goodWord
set_option maxRecDepth 20000 in
theorem wsL_law_in0 : ∀ w ∈ wsL_law0, w ∈ lw_tbl := fun w h => (goodIn_p wsL_law0 [55, 58, 63, 70, 105, 137, 701, 289, 361, 365, 369, 373, 377, 384, 389, 393, 397, 401, 405, 413, 729, 733, 737, 741, 745, 725, 421, 424, 445, 753, 756, 452, 456, 760, 764, 464, 768, 471, 772, 478, 776, 486, 490, 495, 499, 503, 781, 785, 789, 793, 797, 801, 805, 510, 514, 520, 524, 528, 532, 536, 540, 544, 548, 552, 556, 560, 809, 813, 817, 821, 825, 829, 833, 567, 571, 575, 579, 583, 837, 841, 845, 849, 590, 853, 597, 857, 861, 604, 865, 611, 869, 619, 622, 873, 645, 877, 652, 656, 660, 663, 667, 671, 674, 881, 885, 889, 893, 896, 241, 900, 245, 904, 681, 908, 912, 688, 916, 249, 920, 924, 928, 253, 932, 257, 936, 695, 940, 261, 266, 269, 274, 279, 944, 949, 954, 958] (by decide +kernel) (by decide +kernel) w h).1
theorem wsL_law_x0 : ∀ w ∈ (vx_atS RX4 31 "java/lang/IllegalStateException" ["java/lang/RuntimeException", "java/lang/Exception"]).filter goodWord, w ∈ lw_tbl := by decide +kernel
theorem wsL_law_x1 : ∀ w ∈ (vx_atS RX4 188 "java/lang/IllegalArgumentException" ["java/lang/RuntimeException", "java/lang/Exception"]).filter goodWord, w ∈ lw_tbl := by decide +kernel
theorem wsL_law_x2 : ∀ w ∈ (vx_atS RX4 202 "java/lang/IndexOutOfBoundsException" ["java/lang/RuntimeException", "java/lang/Exception"]).filter goodWord, w ∈ lw_tbl := by decide +kernel
theorem wsL_law_in : ∀ w ∈ wsL_law, w ∈ lw_tbl := fun w h => (List.mem_append.mp h).elim (fun h => (List.mem_append.mp h).elim (fun h => (List.mem_append.mp h).elim (fun h => wsL_law_in0 w h) (fun h => wsL_law_x0 w h)) (fun h => wsL_law_x1 w h)) (fun h => wsL_law_x2 w h)
theorem inlX0 : ∀ w ∈ wsX00, w ∈ wsL_law := fun _ h => List.mem_append_left _ (List.mem_append_left _ (List.mem_append_left _ (List.mem_append_left _ (List.mem_append_left _ (List.mem_append_right _ h)))))
theorem inX0 : ∀ w ∈ wsX00, w ∈ lw_tbl := fun w h => wsL_law_in w (inlX0 w h)
theorem inlX1 : ∀ w ∈ wsX10, w ∈ wsL_law := fun _ h => List.mem_append_left _ (List.mem_append_left _ (List.mem_append_left _ (List.mem_append_left _ (List.mem_append_right _ h))))
theorem inX1 : ∀ w ∈ wsX10, w ∈ lw_tbl := fun w h => wsL_law_in w (inlX1 w h)
theorem inlX2 : ∀ w ∈ wsX20, w ∈ wsL_law := fun _ h => List.mem_append_left _ (List.mem_append_left _ (List.mem_append_left _ (List.mem_append_left _ (List.mem_append_left _ (List.mem_append_left _ (List.mem_append_right _ h))))))
theorem inX2 : ∀ w ∈ wsX20, w ∈ lw_tbl := fun w h => wsL_law_in w (inlX2 w h)
theorem inlX3 : ∀ w ∈ wsX30, w ∈ wsL_law := fun _ h => List.mem_append_left _ (List.mem_append_left _ (List.mem_append_left _ (List.mem_append_left _ (List.mem_append_left _ (List.mem_append_left _ (List.mem_append_left _ (List.mem_append_right _ h)))))))
theorem inX3 : ∀ w ∈ wsX30, w ∈ lw_tbl := fun w h => wsL_law_in w (inlX3 w h)
theorem inlX4 : ∀ w ∈ wsX40, w ∈ wsL_law := fun _ h => List.mem_append_left _ (List.mem_append_left _ (List.mem_append_left _ (List.mem_append_left _ (List.mem_append_left _ (List.mem_append_left _ (List.mem_append_left _ (List.mem_append_left _ (List.mem_append_left _ (List.mem_append_right _ h)))))))))
theorem inX4 : ∀ w ∈ wsX40, w ∈ lw_tbl := fun w h => wsL_law_in w (inlX4 w h)
theorem inlX5 : ∀ w ∈ wsX50, w ∈ wsL_law := fun _ h => List.mem_append_left _ (List.mem_append_left _ (List.mem_append_left _ (List.mem_append_left _ (List.mem_append_left _ (List.mem_append_left _ (List.mem_append_left _ (List.mem_append_left _ (List.mem_append_right _ h))))))))
theorem inX5 : ∀ w ∈ wsX50, w ∈ lw_tbl := fun w h => wsL_law_in w (inlX5 w h)
theorem inJ9 : ∀ w ∈ wsJ90, w ∈ lw_tbl := by decide +kernel
theorem inJ0 : ∀ w ∈ wsJ00, w ∈ lw_tbl := by decide +kernel
theorem inJ10 : ∀ w ∈ wsJ100, w ∈ lw_tbl := by decide +kernel
theorem dX0_init_0 : decode cX0_init 0 = .ok (.aload_n 0, 1) := by decide +kernel
theorem dX0_init_1 : decode cX0_init 1 = .ok (.invokespecial 3, 3) := by decide +kernel
theorem dX0_init_4 : decode cX0_init 4 = .ok (.aload_n 0, 1) := by decide +kernel
theorem dX0_init_5 : decode cX0_init 5 = .ok (.iconst 0, 1) := by decide +kernel
theorem dX0_init_6 : decode cX0_init 6 = .ok (.putfield 9, 3) := by decide +kernel
theorem dX0_init_9 : decode cX0_init 9 = .ok (.aload_n 0, 1) := by decide +kernel
theorem dX0_init_10 : decode cX0_init 10 = .ok (.iconst 0, 1) := by decide +kernel
theorem dX0_init_11 : decode cX0_init 11 = .ok (.putfield 15, 3) := by decide +kernel
theorem dX0_init_14 : decode cX0_init 14 = .ok (.aload_n 0, 1) := by decide +kernel
theorem dX0_init_15 : decode cX0_init 15 = .ok (.iconst 0, 1) := by decide +kernel
theorem dX0_init_16 : decode cX0_init 16 = .ok (.putfield 18, 3) := by decide +kernel
theorem dX0_init_19 : decode cX0_init 19 = .ok (.aload_n 0, 1) := by decide +kernel
theorem dX0_init_20 : decode cX0_init 20 = .ok (.bipush 8, 2) := by decide +kernel
theorem dX0_init_22 : decode cX0_init 22 = .ok (.newarray .int, 2) := by decide +kernel
theorem dX0_init_24 : decode cX0_init 24 = .ok (.putfield 21, 3) := by decide +kernel
theorem dX0_init_27 : decode cX0_init 27 = .ok (.aload_n 0, 1) := by decide +kernel
theorem dX0_init_28 : decode cX0_init 28 = .ok (.bipush 8, 2) := by decide +kernel
theorem dX0_init_30 : decode cX0_init 30 = .ok (.newarray .int, 2) := by decide +kernel
theorem dX0_init_32 : decode cX0_init 32 = .ok (.putfield 25, 3) := by decide +kernel
theorem dX0_init_35 : decode cX0_init 35 = .ok (.return_, 1) := by decide +kernel
theorem dX0_copyFrom_0 : decode cX0_copyFrom 0 = .ok (.aload_n 0, 1) := by decide +kernel
theorem dX0_copyFrom_1 : decode cX0_copyFrom 1 = .ok (.aload_n 1, 1) := by decide +kernel
theorem dX0_copyFrom_2 : decode cX0_copyFrom 2 = .ok (.getfield 9, 3) := by decide +kernel
theorem dX0_copyFrom_5 : decode cX0_copyFrom 5 = .ok (.putfield 9, 3) := by decide +kernel
theorem dX0_copyFrom_8 : decode cX0_copyFrom 8 = .ok (.aload_n 0, 1) := by decide +kernel
theorem dX0_copyFrom_9 : decode cX0_copyFrom 9 = .ok (.aload_n 1, 1) := by decide +kernel
theorem dX0_copyFrom_10 : decode cX0_copyFrom 10 = .ok (.getfield 15, 3) := by decide +kernel
theorem dX0_copyFrom_13 : decode cX0_copyFrom 13 = .ok (.putfield 15, 3) := by decide +kernel
theorem dX0_copyFrom_16 : decode cX0_copyFrom 16 = .ok (.aload_n 0, 1) := by decide +kernel
theorem dX0_copyFrom_17 : decode cX0_copyFrom 17 = .ok (.aload_n 1, 1) := by decide +kernel
theorem dX0_copyFrom_18 : decode cX0_copyFrom 18 = .ok (.getfield 18, 3) := by decide +kernel
theorem dX0_copyFrom_21 : decode cX0_copyFrom 21 = .ok (.putfield 18, 3) := by decide +kernel
theorem dX0_copyFrom_24 : decode cX0_copyFrom 24 = .ok (.aload_n 1, 1) := by decide +kernel
theorem dX0_copyFrom_25 : decode cX0_copyFrom 25 = .ok (.getfield 21, 3) := by decide +kernel
theorem dX0_copyFrom_28 : decode cX0_copyFrom 28 = .ok (.iconst 0, 1) := by decide +kernel
theorem dX0_copyFrom_29 : decode cX0_copyFrom 29 = .ok (.aload_n 0, 1) := by decide +kernel
theorem dX0_copyFrom_30 : decode cX0_copyFrom 30 = .ok (.getfield 21, 3) := by decide +kernel
theorem dX0_copyFrom_33 : decode cX0_copyFrom 33 = .ok (.iconst 0, 1) := by decide +kernel
theorem dX0_copyFrom_34 : decode cX0_copyFrom 34 = .ok (.bipush 8, 2) := by decide +kernel
theorem dX0_copyFrom_36 : decode cX0_copyFrom 36 = .ok (.invokestatic 28, 3) := by decide +kernel
theorem dX0_copyFrom_39 : decode cX0_copyFrom 39 = .ok (.aload_n 1, 1) := by decide +kernel
theorem dX0_copyFrom_40 : decode cX0_copyFrom 40 = .ok (.getfield 25, 3) := by decide +kernel
theorem dX0_copyFrom_43 : decode cX0_copyFrom 43 = .ok (.iconst 0, 1) := by decide +kernel
theorem dX0_copyFrom_44 : decode cX0_copyFrom 44 = .ok (.aload_n 0, 1) := by decide +kernel
theorem dX0_copyFrom_45 : decode cX0_copyFrom 45 = .ok (.getfield 25, 3) := by decide +kernel
theorem dX0_copyFrom_48 : decode cX0_copyFrom 48 = .ok (.iconst 0, 1) := by decide +kernel
theorem dX0_copyFrom_49 : decode cX0_copyFrom 49 = .ok (.bipush 8, 2) := by decide +kernel
theorem dX0_copyFrom_51 : decode cX0_copyFrom 51 = .ok (.invokestatic 28, 3) := by decide +kernel
theorem dX0_copyFrom_54 : decode cX0_copyFrom 54 = .ok (.return_, 1) := by decide +kernel
theorem dX0_appendIdle_0 : decode cX0_appendIdle 0 = .ok (.aload_n 0, 1) := by decide +kernel
theorem dX0_appendIdle_1 : decode cX0_appendIdle 1 = .ok (.getfield 18, 3) := by decide +kernel
theorem dX0_appendIdle_4 : decode cX0_appendIdle 4 = .ok (.bipush 8, 2) := by decide +kernel
theorem dX0_appendIdle_6 : decode cX0_appendIdle 6 = .ok (.if_icmp .ge 23, 3) := by decide +kernel
theorem dX0_appendIdle_9 : decode cX0_appendIdle 9 = .ok (.aload_n 0, 1) := by decide +kernel
theorem dX0_appendIdle_10 : decode cX0_appendIdle 10 = .ok (.getfield 21, 3) := by decide +kernel
theorem dX0_appendIdle_13 : decode cX0_appendIdle 13 = .ok (.aload_n 0, 1) := by decide +kernel
theorem dX0_appendIdle_14 : decode cX0_appendIdle 14 = .ok (.getfield 18, 3) := by decide +kernel
theorem dX0_appendIdle_17 : decode cX0_appendIdle 17 = .ok (.iload_n 1, 1) := by decide +kernel
theorem dX0_appendIdle_18 : decode cX0_appendIdle 18 = .ok (.iastore, 1) := by decide +kernel
theorem dX0_appendIdle_19 : decode cX0_appendIdle 19 = .ok (.aload_n 0, 1) := by decide +kernel
theorem dX0_appendIdle_20 : decode cX0_appendIdle 20 = .ok (.dup, 1) := by decide +kernel
theorem dX0_appendIdle_21 : decode cX0_appendIdle 21 = .ok (.getfield 18, 3) := by decide +kernel
theorem dX0_appendIdle_24 : decode cX0_appendIdle 24 = .ok (.iconst 1, 1) := by decide +kernel
theorem dX0_appendIdle_25 : decode cX0_appendIdle 25 = .ok (.iadd, 1) := by decide +kernel
theorem dX0_appendIdle_26 : decode cX0_appendIdle 26 = .ok (.putfield 18, 3) := by decide +kernel
theorem dX0_appendIdle_29 : decode cX0_appendIdle 29 = .ok (.return_, 1) := by decide +kernel
theorem dX0_removeIdle_0 : decode cX0_removeIdle 0 = .ok (.iconst 0, 1) := by decide +kernel
theorem dX0_removeIdle_1 : decode cX0_removeIdle 1 = .ok (.istore_n 2, 1) := by decide +kernel
theorem dX0_removeIdle_2 : decode cX0_removeIdle 2 = .ok (.iconst 0, 1) := by decide +kernel
theorem dX0_removeIdle_3 : decode cX0_removeIdle 3 = .ok (.istore_n 3, 1) := by decide +kernel
theorem dX0_removeIdle_4 : decode cX0_removeIdle 4 = .ok (.iload_n 3, 1) := by decide +kernel
theorem dX0_removeIdle_5 : decode cX0_removeIdle 5 = .ok (.aload_n 0, 1) := by decide +kernel
theorem dX0_removeIdle_6 : decode cX0_removeIdle 6 = .ok (.getfield 18, 3) := by decide +kernel
theorem dX0_removeIdle_9 : decode cX0_removeIdle 9 = .ok (.if_icmp .ge 34, 3) := by decide +kernel
theorem dX0_removeIdle_12 : decode cX0_removeIdle 12 = .ok (.aload_n 0, 1) := by decide +kernel
theorem dX0_removeIdle_13 : decode cX0_removeIdle 13 = .ok (.getfield 21, 3) := by decide +kernel
theorem dX0_removeIdle_16 : decode cX0_removeIdle 16 = .ok (.iload_n 3, 1) := by decide +kernel
theorem dX0_removeIdle_17 : decode cX0_removeIdle 17 = .ok (.iaload, 1) := by decide +kernel
theorem dX0_removeIdle_18 : decode cX0_removeIdle 18 = .ok (.iload_n 1, 1) := by decide +kernel
theorem dX0_removeIdle_19 : decode cX0_removeIdle 19 = .ok (.if_icmp .eq 18, 3) := by decide +kernel
theorem dX0_removeIdle_22 : decode cX0_removeIdle 22 = .ok (.aload_n 0, 1) := by decide +kernel
theorem dX0_removeIdle_23 : decode cX0_removeIdle 23 = .ok (.getfield 21, 3) := by decide +kernel
theorem dX0_removeIdle_26 : decode cX0_removeIdle 26 = .ok (.iload_n 2, 1) := by decide +kernel
theorem dX0_removeIdle_27 : decode cX0_removeIdle 27 = .ok (.aload_n 0, 1) := by decide +kernel
theorem dX0_removeIdle_28 : decode cX0_removeIdle 28 = .ok (.getfield 21, 3) := by decide +kernel
theorem dX0_removeIdle_31 : decode cX0_removeIdle 31 = .ok (.iload_n 3, 1) := by decide +kernel
theorem dX0_removeIdle_32 : decode cX0_removeIdle 32 = .ok (.iaload, 1) := by decide +kernel
theorem dX0_removeIdle_33 : decode cX0_removeIdle 33 = .ok (.iastore, 1) := by decide +kernel
theorem dX0_removeIdle_34 : decode cX0_removeIdle 34 = .ok (.iinc 2 1, 3) := by decide +kernel
theorem dX0_removeIdle_37 : decode cX0_removeIdle 37 = .ok (.iinc 3 1, 3) := by decide +kernel
theorem dX0_removeIdle_40 : decode cX0_removeIdle 40 = .ok (.goto (-36), 3) := by decide +kernel
theorem dX0_removeIdle_43 : decode cX0_removeIdle 43 = .ok (.aload_n 0, 1) := by decide +kernel
theorem dX0_removeIdle_44 : decode cX0_removeIdle 44 = .ok (.iload_n 2, 1) := by decide +kernel
theorem dX0_removeIdle_45 : decode cX0_removeIdle 45 = .ok (.putfield 18, 3) := by decide +kernel
theorem dX0_removeIdle_48 : decode cX0_removeIdle 48 = .ok (.return_, 1) := by decide +kernel
set_option maxRecDepth 20000 in
theorem ggX0_mixAll_X4_mix : GoodIn wsX0_mixAll wsX4_mix := goodIn_r _ [8, 9] (by decide +kernel) (by decide +kernel)
set_option maxRecDepth 20000 in
theorem gX0_mixAll_X4_mix_n34 : GoodIn wsX0_mixAll (wsX4_mix) := ggX0_mixAll_X4_mix
theorem dX0_mixAll_0 : decode cX0_mixAll 0 = .ok (.lload_n 1, 1) := by decide +kernel
theorem dX0_mixAll_1 : decode cX0_mixAll 1 = .ok (.aload_n 0, 1) := by decide +kernel
theorem dX0_mixAll_2 : decode cX0_mixAll 2 = .ok (.getfield 9, 3) := by decide +kernel
theorem dX0_mixAll_5 : decode cX0_mixAll 5 = .ok (.i2l, 1) := by decide +kernel
theorem dX0_mixAll_6 : decode cX0_mixAll 6 = .ok (.invokestatic 34, 3) := by decide +kernel
theorem dX0_mixAll_9 : decode cX0_mixAll 9 = .ok (.lstore 4, 2) := by decide +kernel
theorem dX0_mixAll_11 : decode cX0_mixAll 11 = .ok (.lload 4, 2) := by decide +kernel
theorem dX0_mixAll_13 : decode cX0_mixAll 13 = .ok (.aload_n 0, 1) := by decide +kernel
theorem dX0_mixAll_14 : decode cX0_mixAll 14 = .ok (.getfield 15, 3) := by decide +kernel
theorem dX0_mixAll_17 : decode cX0_mixAll 17 = .ok (.i2l, 1) := by decide +kernel
theorem dX0_mixAll_18 : decode cX0_mixAll 18 = .ok (.invokestatic 34, 3) := by decide +kernel
theorem dX0_mixAll_21 : decode cX0_mixAll 21 = .ok (.lstore 4, 2) := by decide +kernel
theorem dX0_mixAll_23 : decode cX0_mixAll 23 = .ok (.lload 4, 2) := by decide +kernel
theorem dX0_mixAll_25 : decode cX0_mixAll 25 = .ok (.aload_n 0, 1) := by decide +kernel
theorem dX0_mixAll_26 : decode cX0_mixAll 26 = .ok (.getfield 18, 3) := by decide +kernel
theorem dX0_mixAll_29 : decode cX0_mixAll 29 = .ok (.i2l, 1) := by decide +kernel
theorem dX0_mixAll_30 : decode cX0_mixAll 30 = .ok (.invokestatic 34, 3) := by decide +kernel
theorem dX0_mixAll_33 : decode cX0_mixAll 33 = .ok (.lstore 4, 2) := by decide +kernel
theorem dX0_mixAll_35 : decode cX0_mixAll 35 = .ok (.iconst 0, 1) := by decide +kernel
theorem dX0_mixAll_36 : decode cX0_mixAll 36 = .ok (.istore 6, 2) := by decide +kernel
theorem dX0_mixAll_38 : decode cX0_mixAll 38 = .ok (.iload 6, 2) := by decide +kernel
theorem dX0_mixAll_40 : decode cX0_mixAll 40 = .ok (.aload_n 0, 1) := by decide +kernel
theorem dX0_mixAll_41 : decode cX0_mixAll 41 = .ok (.getfield 18, 3) := by decide +kernel
theorem dX0_mixAll_44 : decode cX0_mixAll 44 = .ok (.if_icmp .ge 24, 3) := by decide +kernel
theorem dX0_mixAll_47 : decode cX0_mixAll 47 = .ok (.lload 4, 2) := by decide +kernel
theorem dX0_mixAll_49 : decode cX0_mixAll 49 = .ok (.aload_n 0, 1) := by decide +kernel
theorem dX0_mixAll_50 : decode cX0_mixAll 50 = .ok (.getfield 21, 3) := by decide +kernel
theorem dX0_mixAll_53 : decode cX0_mixAll 53 = .ok (.iload 6, 2) := by decide +kernel
theorem dX0_mixAll_55 : decode cX0_mixAll 55 = .ok (.iaload, 1) := by decide +kernel
theorem dX0_mixAll_56 : decode cX0_mixAll 56 = .ok (.i2l, 1) := by decide +kernel
theorem dX0_mixAll_57 : decode cX0_mixAll 57 = .ok (.invokestatic 34, 3) := by decide +kernel
theorem dX0_mixAll_60 : decode cX0_mixAll 60 = .ok (.lstore 4, 2) := by decide +kernel
theorem dX0_mixAll_62 : decode cX0_mixAll 62 = .ok (.iinc 6 1, 3) := by decide +kernel
theorem dX0_mixAll_65 : decode cX0_mixAll 65 = .ok (.goto (-27), 3) := by decide +kernel
theorem dX0_mixAll_68 : decode cX0_mixAll 68 = .ok (.iconst 0, 1) := by decide +kernel
theorem dX0_mixAll_69 : decode cX0_mixAll 69 = .ok (.istore 6, 2) := by decide +kernel
theorem dX0_mixAll_71 : decode cX0_mixAll 71 = .ok (.iload 6, 2) := by decide +kernel
theorem dX0_mixAll_73 : decode cX0_mixAll 73 = .ok (.iload_n 3, 1) := by decide +kernel
theorem dX0_mixAll_74 : decode cX0_mixAll 74 = .ok (.if_icmp .ge 24, 3) := by decide +kernel
theorem dX0_mixAll_77 : decode cX0_mixAll 77 = .ok (.lload 4, 2) := by decide +kernel
theorem dX0_mixAll_79 : decode cX0_mixAll 79 = .ok (.aload_n 0, 1) := by decide +kernel
theorem dX0_mixAll_80 : decode cX0_mixAll 80 = .ok (.getfield 25, 3) := by decide +kernel
theorem dX0_mixAll_83 : decode cX0_mixAll 83 = .ok (.iload 6, 2) := by decide +kernel
theorem dX0_mixAll_85 : decode cX0_mixAll 85 = .ok (.iaload, 1) := by decide +kernel
theorem dX0_mixAll_86 : decode cX0_mixAll 86 = .ok (.i2l, 1) := by decide +kernel
theorem dX0_mixAll_87 : decode cX0_mixAll 87 = .ok (.invokestatic 34, 3) := by decide +kernel
theorem dX0_mixAll_90 : decode cX0_mixAll 90 = .ok (.lstore 4, 2) := by decide +kernel
theorem dX0_mixAll_92 : decode cX0_mixAll 92 = .ok (.iinc 6 1, 3) := by decide +kernel
theorem dX0_mixAll_95 : decode cX0_mixAll 95 = .ok (.goto (-24), 3) := by decide +kernel
theorem dX0_mixAll_98 : decode cX0_mixAll 98 = .ok (.lload 4, 2) := by decide +kernel
theorem dX0_mixAll_100 : decode cX0_mixAll 100 = .ok (.lreturn, 1) := by decide +kernel
theorem dX1_init_0 : decode cX1_init 0 = .ok (.aload_n 0, 1) := by decide +kernel
theorem dX1_init_1 : decode cX1_init 1 = .ok (.invokespecial 3, 3) := by decide +kernel
theorem dX1_init_4 : decode cX1_init 4 = .ok (.aload_n 0, 1) := by decide +kernel
theorem dX1_init_5 : decode cX1_init 5 = .ok (.iconst 0, 1) := by decide +kernel
theorem dX1_init_6 : decode cX1_init 6 = .ok (.putfield 9, 3) := by decide +kernel
theorem dX1_init_9 : decode cX1_init 9 = .ok (.aload_n 0, 1) := by decide +kernel
theorem dX1_init_10 : decode cX1_init 10 = .ok (.iconst 0, 1) := by decide +kernel
theorem dX1_init_11 : decode cX1_init 11 = .ok (.putfield 15, 3) := by decide +kernel
theorem dX1_init_14 : decode cX1_init 14 = .ok (.aload_n 0, 1) := by decide +kernel
theorem dX1_init_15 : decode cX1_init 15 = .ok (.iconst 0, 1) := by decide +kernel
theorem dX1_init_16 : decode cX1_init 16 = .ok (.putfield 18, 3) := by decide +kernel
theorem dX1_init_19 : decode cX1_init 19 = .ok (.aload_n 0, 1) := by decide +kernel
theorem dX1_init_20 : decode cX1_init 20 = .ok (.iconst 0, 1) := by decide +kernel
theorem dX1_init_21 : decode cX1_init 21 = .ok (.putfield 21, 3) := by decide +kernel
theorem dX1_init_24 : decode cX1_init 24 = .ok (.aload_n 0, 1) := by decide +kernel
theorem dX1_init_25 : decode cX1_init 25 = .ok (.iconst 0, 1) := by decide +kernel
theorem dX1_init_26 : decode cX1_init 26 = .ok (.putfield 24, 3) := by decide +kernel
theorem dX1_init_29 : decode cX1_init 29 = .ok (.aload_n 0, 1) := by decide +kernel
theorem dX1_init_30 : decode cX1_init 30 = .ok (.sipush 200, 3) := by decide +kernel
theorem dX1_init_33 : decode cX1_init 33 = .ok (.newarray .int, 2) := by decide +kernel
theorem dX1_init_35 : decode cX1_init 35 = .ok (.putfield 27, 3) := by decide +kernel
theorem dX1_init_38 : decode cX1_init 38 = .ok (.aload_n 0, 1) := by decide +kernel
theorem dX1_init_39 : decode cX1_init 39 = .ok (.sipush 200, 3) := by decide +kernel
theorem dX1_init_42 : decode cX1_init 42 = .ok (.newarray .int, 2) := by decide +kernel
theorem dX1_init_44 : decode cX1_init 44 = .ok (.putfield 31, 3) := by decide +kernel
theorem dX1_init_47 : decode cX1_init 47 = .ok (.aload_n 0, 1) := by decide +kernel
theorem dX1_init_48 : decode cX1_init 48 = .ok (.sipush 200, 3) := by decide +kernel
theorem dX1_init_51 : decode cX1_init 51 = .ok (.newarray .int, 2) := by decide +kernel
theorem dX1_init_53 : decode cX1_init 53 = .ok (.putfield 34, 3) := by decide +kernel
theorem dX1_init_56 : decode cX1_init 56 = .ok (.aload_n 0, 1) := by decide +kernel
theorem dX1_init_57 : decode cX1_init 57 = .ok (.sipush 200, 3) := by decide +kernel
theorem dX1_init_60 : decode cX1_init 60 = .ok (.newarray .int, 2) := by decide +kernel
theorem dX1_init_62 : decode cX1_init 62 = .ok (.putfield 37, 3) := by decide +kernel
theorem dX1_init_65 : decode cX1_init 65 = .ok (.aload_n 0, 1) := by decide +kernel
theorem dX1_init_66 : decode cX1_init 66 = .ok (.sipush 200, 3) := by decide +kernel
theorem dX1_init_69 : decode cX1_init 69 = .ok (.newarray .int, 2) := by decide +kernel
theorem dX1_init_71 : decode cX1_init 71 = .ok (.putfield 40, 3) := by decide +kernel
theorem dX1_init_74 : decode cX1_init 74 = .ok (.return_, 1) := by decide +kernel
theorem dX1_copyFrom_0 : decode cX1_copyFrom 0 = .ok (.aload_n 0, 1) := by decide +kernel
theorem dX1_copyFrom_1 : decode cX1_copyFrom 1 = .ok (.aload_n 1, 1) := by decide +kernel
theorem dX1_copyFrom_2 : decode cX1_copyFrom 2 = .ok (.getfield 9, 3) := by decide +kernel
theorem dX1_copyFrom_5 : decode cX1_copyFrom 5 = .ok (.putfield 9, 3) := by decide +kernel
theorem dX1_copyFrom_8 : decode cX1_copyFrom 8 = .ok (.aload_n 0, 1) := by decide +kernel
theorem dX1_copyFrom_9 : decode cX1_copyFrom 9 = .ok (.aload_n 1, 1) := by decide +kernel
theorem dX1_copyFrom_10 : decode cX1_copyFrom 10 = .ok (.getfield 15, 3) := by decide +kernel
theorem dX1_copyFrom_13 : decode cX1_copyFrom 13 = .ok (.putfield 15, 3) := by decide +kernel
theorem dX1_copyFrom_16 : decode cX1_copyFrom 16 = .ok (.aload_n 0, 1) := by decide +kernel
theorem dX1_copyFrom_17 : decode cX1_copyFrom 17 = .ok (.aload_n 1, 1) := by decide +kernel
theorem dX1_copyFrom_18 : decode cX1_copyFrom 18 = .ok (.getfield 18, 3) := by decide +kernel
theorem dX1_copyFrom_21 : decode cX1_copyFrom 21 = .ok (.putfield 18, 3) := by decide +kernel
theorem dX1_copyFrom_24 : decode cX1_copyFrom 24 = .ok (.aload_n 0, 1) := by decide +kernel
theorem dX1_copyFrom_25 : decode cX1_copyFrom 25 = .ok (.aload_n 1, 1) := by decide +kernel
theorem dX1_copyFrom_26 : decode cX1_copyFrom 26 = .ok (.getfield 21, 3) := by decide +kernel
theorem dX1_copyFrom_29 : decode cX1_copyFrom 29 = .ok (.putfield 21, 3) := by decide +kernel
theorem dX1_copyFrom_32 : decode cX1_copyFrom 32 = .ok (.aload_n 0, 1) := by decide +kernel
theorem dX1_copyFrom_33 : decode cX1_copyFrom 33 = .ok (.aload_n 1, 1) := by decide +kernel
theorem dX1_copyFrom_34 : decode cX1_copyFrom 34 = .ok (.getfield 24, 3) := by decide +kernel
theorem dX1_copyFrom_37 : decode cX1_copyFrom 37 = .ok (.putfield 24, 3) := by decide +kernel
theorem dX1_copyFrom_40 : decode cX1_copyFrom 40 = .ok (.aload_n 1, 1) := by decide +kernel
theorem dX1_copyFrom_41 : decode cX1_copyFrom 41 = .ok (.getfield 27, 3) := by decide +kernel
theorem dX1_copyFrom_44 : decode cX1_copyFrom 44 = .ok (.iconst 0, 1) := by decide +kernel
theorem dX1_copyFrom_45 : decode cX1_copyFrom 45 = .ok (.aload_n 0, 1) := by decide +kernel
theorem dX1_copyFrom_46 : decode cX1_copyFrom 46 = .ok (.getfield 27, 3) := by decide +kernel
theorem dX1_copyFrom_49 : decode cX1_copyFrom 49 = .ok (.iconst 0, 1) := by decide +kernel
theorem dX1_copyFrom_50 : decode cX1_copyFrom 50 = .ok (.aload_n 0, 1) := by decide +kernel
theorem dX1_copyFrom_51 : decode cX1_copyFrom 51 = .ok (.getfield 9, 3) := by decide +kernel
theorem dX1_copyFrom_54 : decode cX1_copyFrom 54 = .ok (.invokestatic 43, 3) := by decide +kernel
theorem dX1_copyFrom_57 : decode cX1_copyFrom 57 = .ok (.aload_n 1, 1) := by decide +kernel
theorem dX1_copyFrom_58 : decode cX1_copyFrom 58 = .ok (.getfield 31, 3) := by decide +kernel
theorem dX1_copyFrom_61 : decode cX1_copyFrom 61 = .ok (.iconst 0, 1) := by decide +kernel
theorem dX1_copyFrom_62 : decode cX1_copyFrom 62 = .ok (.aload_n 0, 1) := by decide +kernel
theorem dX1_copyFrom_63 : decode cX1_copyFrom 63 = .ok (.getfield 31, 3) := by decide +kernel
theorem dX1_copyFrom_66 : decode cX1_copyFrom 66 = .ok (.iconst 0, 1) := by decide +kernel
theorem dX1_copyFrom_67 : decode cX1_copyFrom 67 = .ok (.aload_n 0, 1) := by decide +kernel
theorem dX1_copyFrom_68 : decode cX1_copyFrom 68 = .ok (.getfield 9, 3) := by decide +kernel
theorem dX1_copyFrom_71 : decode cX1_copyFrom 71 = .ok (.invokestatic 43, 3) := by decide +kernel
theorem dX1_copyFrom_74 : decode cX1_copyFrom 74 = .ok (.aload_n 1, 1) := by decide +kernel
theorem dX1_copyFrom_75 : decode cX1_copyFrom 75 = .ok (.getfield 34, 3) := by decide +kernel
theorem dX1_copyFrom_78 : decode cX1_copyFrom 78 = .ok (.iconst 0, 1) := by decide +kernel
theorem dX1_copyFrom_79 : decode cX1_copyFrom 79 = .ok (.aload_n 0, 1) := by decide +kernel
theorem dX1_copyFrom_80 : decode cX1_copyFrom 80 = .ok (.getfield 34, 3) := by decide +kernel
theorem dX1_copyFrom_83 : decode cX1_copyFrom 83 = .ok (.iconst 0, 1) := by decide +kernel
theorem dX1_copyFrom_84 : decode cX1_copyFrom 84 = .ok (.aload_n 0, 1) := by decide +kernel
theorem dX1_copyFrom_85 : decode cX1_copyFrom 85 = .ok (.getfield 9, 3) := by decide +kernel
theorem dX1_copyFrom_88 : decode cX1_copyFrom 88 = .ok (.invokestatic 43, 3) := by decide +kernel
theorem dX1_copyFrom_91 : decode cX1_copyFrom 91 = .ok (.aload_n 1, 1) := by decide +kernel
theorem dX1_copyFrom_92 : decode cX1_copyFrom 92 = .ok (.getfield 37, 3) := by decide +kernel
theorem dX1_copyFrom_95 : decode cX1_copyFrom 95 = .ok (.iconst 0, 1) := by decide +kernel
theorem dX1_copyFrom_96 : decode cX1_copyFrom 96 = .ok (.aload_n 0, 1) := by decide +kernel
theorem dX1_copyFrom_97 : decode cX1_copyFrom 97 = .ok (.getfield 37, 3) := by decide +kernel
theorem dX1_copyFrom_100 : decode cX1_copyFrom 100 = .ok (.iconst 0, 1) := by decide +kernel
theorem dX1_copyFrom_101 : decode cX1_copyFrom 101 = .ok (.aload_n 0, 1) := by decide +kernel
theorem dX1_copyFrom_102 : decode cX1_copyFrom 102 = .ok (.getfield 9, 3) := by decide +kernel
theorem dX1_copyFrom_105 : decode cX1_copyFrom 105 = .ok (.invokestatic 43, 3) := by decide +kernel
theorem dX1_copyFrom_108 : decode cX1_copyFrom 108 = .ok (.aload_n 1, 1) := by decide +kernel
theorem dX1_copyFrom_109 : decode cX1_copyFrom 109 = .ok (.getfield 40, 3) := by decide +kernel
theorem dX1_copyFrom_112 : decode cX1_copyFrom 112 = .ok (.iconst 0, 1) := by decide +kernel
theorem dX1_copyFrom_113 : decode cX1_copyFrom 113 = .ok (.aload_n 0, 1) := by decide +kernel
theorem dX1_copyFrom_114 : decode cX1_copyFrom 114 = .ok (.getfield 40, 3) := by decide +kernel
theorem dX1_copyFrom_117 : decode cX1_copyFrom 117 = .ok (.iconst 0, 1) := by decide +kernel
theorem dX1_copyFrom_118 : decode cX1_copyFrom 118 = .ok (.aload_n 0, 1) := by decide +kernel
theorem dX1_copyFrom_119 : decode cX1_copyFrom 119 = .ok (.getfield 9, 3) := by decide +kernel
theorem dX1_copyFrom_122 : decode cX1_copyFrom 122 = .ok (.invokestatic 43, 3) := by decide +kernel
theorem dX1_copyFrom_125 : decode cX1_copyFrom 125 = .ok (.return_, 1) := by decide +kernel
theorem dX1_append_0 : decode cX1_append 0 = .ok (.aload_n 0, 1) := by decide +kernel
theorem dX1_append_1 : decode cX1_append 1 = .ok (.getfield 9, 3) := by decide +kernel
theorem dX1_append_4 : decode cX1_append 4 = .ok (.sipush 200, 3) := by decide +kernel
theorem dX1_append_7 : decode cX1_append 7 = .ok (.if_icmp .lt 5, 3) := by decide +kernel
theorem dX1_append_10 : decode cX1_append 10 = .ok (.iconst (-1), 1) := by decide +kernel
theorem dX1_append_11 : decode cX1_append 11 = .ok (.ireturn, 1) := by decide +kernel
theorem dX1_append_12 : decode cX1_append 12 = .ok (.aload_n 0, 1) := by decide +kernel
theorem dX1_append_13 : decode cX1_append 13 = .ok (.getfield 9, 3) := by decide +kernel
theorem dX1_append_16 : decode cX1_append 16 = .ok (.istore 4, 2) := by decide +kernel
theorem dX1_append_18 : decode cX1_append 18 = .ok (.aload_n 0, 1) := by decide +kernel
theorem dX1_append_19 : decode cX1_append 19 = .ok (.dup, 1) := by decide +kernel
theorem dX1_append_20 : decode cX1_append 20 = .ok (.getfield 9, 3) := by decide +kernel
theorem dX1_append_23 : decode cX1_append 23 = .ok (.iconst 1, 1) := by decide +kernel
theorem dX1_append_24 : decode cX1_append 24 = .ok (.iadd, 1) := by decide +kernel
theorem dX1_append_25 : decode cX1_append 25 = .ok (.putfield 9, 3) := by decide +kernel
theorem dX1_append_28 : decode cX1_append 28 = .ok (.aload_n 0, 1) := by decide +kernel
theorem dX1_append_29 : decode cX1_append 29 = .ok (.getfield 27, 3) := by decide +kernel
theorem dX1_append_32 : decode cX1_append 32 = .ok (.iload 4, 2) := by decide +kernel
theorem dX1_append_34 : decode cX1_append 34 = .ok (.iload_n 1, 1) := by decide +kernel
theorem dX1_append_35 : decode cX1_append 35 = .ok (.iastore, 1) := by decide +kernel
theorem dX1_append_36 : decode cX1_append 36 = .ok (.aload_n 0, 1) := by decide +kernel
theorem dX1_append_37 : decode cX1_append 37 = .ok (.getfield 31, 3) := by decide +kernel
theorem dX1_append_40 : decode cX1_append 40 = .ok (.iload 4, 2) := by decide +kernel
theorem dX1_append_42 : decode cX1_append 42 = .ok (.iload_n 2, 1) := by decide +kernel
theorem dX1_append_43 : decode cX1_append 43 = .ok (.iastore, 1) := by decide +kernel
theorem dX1_append_44 : decode cX1_append 44 = .ok (.aload_n 0, 1) := by decide +kernel
theorem dX1_append_45 : decode cX1_append 45 = .ok (.getfield 34, 3) := by decide +kernel
theorem dX1_append_48 : decode cX1_append 48 = .ok (.iload 4, 2) := by decide +kernel
theorem dX1_append_50 : decode cX1_append 50 = .ok (.iload_n 3, 1) := by decide +kernel
theorem dX1_append_51 : decode cX1_append 51 = .ok (.iastore, 1) := by decide +kernel
theorem dX1_append_52 : decode cX1_append 52 = .ok (.aload_n 0, 1) := by decide +kernel
theorem dX1_append_53 : decode cX1_append 53 = .ok (.getfield 37, 3) := by decide +kernel
theorem dX1_append_56 : decode cX1_append 56 = .ok (.iload 4, 2) := by decide +kernel
theorem dX1_append_58 : decode cX1_append 58 = .ok (.iconst (-1), 1) := by decide +kernel
theorem dX1_append_59 : decode cX1_append 59 = .ok (.iastore, 1) := by decide +kernel
theorem dX1_append_60 : decode cX1_append 60 = .ok (.aload_n 0, 1) := by decide +kernel
theorem dX1_append_61 : decode cX1_append 61 = .ok (.getfield 40, 3) := by decide +kernel
theorem dX1_append_64 : decode cX1_append 64 = .ok (.iload 4, 2) := by decide +kernel
theorem dX1_append_66 : decode cX1_append 66 = .ok (.iconst (-1), 1) := by decide +kernel
theorem dX1_append_67 : decode cX1_append 67 = .ok (.iastore, 1) := by decide +kernel
theorem dX1_append_68 : decode cX1_append 68 = .ok (.iload 4, 2) := by decide +kernel
theorem dX1_append_70 : decode cX1_append 70 = .ok (.ireturn, 1) := by decide +kernel
theorem dX1_begin_0 : decode cX1_begin 0 = .ok (.aload_n 0, 1) := by decide +kernel
theorem dX1_begin_1 : decode cX1_begin 1 = .ok (.getfield 37, 3) := by decide +kernel
theorem dX1_begin_4 : decode cX1_begin 4 = .ok (.iload_n 1, 1) := by decide +kernel
theorem dX1_begin_5 : decode cX1_begin 5 = .ok (.iload_n 2, 1) := by decide +kernel
theorem dX1_begin_6 : decode cX1_begin 6 = .ok (.aload_n 0, 1) := by decide +kernel
theorem dX1_begin_7 : decode cX1_begin 7 = .ok (.getfield 34, 3) := by decide +kernel
theorem dX1_begin_10 : decode cX1_begin 10 = .ok (.iload_n 1, 1) := by decide +kernel
theorem dX1_begin_11 : decode cX1_begin 11 = .ok (.iaload, 1) := by decide +kernel
theorem dX1_begin_12 : decode cX1_begin 12 = .ok (.isub, 1) := by decide +kernel
theorem dX1_begin_13 : decode cX1_begin 13 = .ok (.iastore, 1) := by decide +kernel
theorem dX1_begin_14 : decode cX1_begin 14 = .ok (.aload_n 0, 1) := by decide +kernel
theorem dX1_begin_15 : decode cX1_begin 15 = .ok (.dup, 1) := by decide +kernel
theorem dX1_begin_16 : decode cX1_begin 16 = .ok (.getfield 21, 3) := by decide +kernel
theorem dX1_begin_19 : decode cX1_begin 19 = .ok (.aload_n 0, 1) := by decide +kernel
theorem dX1_begin_20 : decode cX1_begin 20 = .ok (.getfield 37, 3) := by decide +kernel
theorem dX1_begin_23 : decode cX1_begin 23 = .ok (.iload_n 1, 1) := by decide +kernel
theorem dX1_begin_24 : decode cX1_begin 24 = .ok (.iaload, 1) := by decide +kernel
theorem dX1_begin_25 : decode cX1_begin 25 = .ok (.iadd, 1) := by decide +kernel
theorem dX1_begin_26 : decode cX1_begin 26 = .ok (.putfield 21, 3) := by decide +kernel
theorem dX1_begin_29 : decode cX1_begin 29 = .ok (.aload_n 0, 1) := by decide +kernel
theorem dX1_begin_30 : decode cX1_begin 30 = .ok (.dup, 1) := by decide +kernel
theorem dX1_begin_31 : decode cX1_begin 31 = .ok (.getfield 18, 3) := by decide +kernel
theorem dX1_begin_34 : decode cX1_begin 34 = .ok (.iconst 1, 1) := by decide +kernel
theorem dX1_begin_35 : decode cX1_begin 35 = .ok (.iadd, 1) := by decide +kernel
theorem dX1_begin_36 : decode cX1_begin 36 = .ok (.putfield 18, 3) := by decide +kernel
theorem dX1_begin_39 : decode cX1_begin 39 = .ok (.return_, 1) := by decide +kernel
theorem dX2_init_0 : decode cX2_init 0 = .ok (.aload_n 0, 1) := by decide +kernel
theorem dX2_init_1 : decode cX2_init 1 = .ok (.invokespecial 3, 3) := by decide +kernel
theorem dX2_init_4 : decode cX2_init 4 = .ok (.aload_n 0, 1) := by decide +kernel
theorem dX2_init_5 : decode cX2_init 5 = .ok (.iconst 1, 1) := by decide +kernel
theorem dX2_init_6 : decode cX2_init 6 = .ok (.putfield 9, 3) := by decide +kernel
theorem dX2_init_9 : decode cX2_init 9 = .ok (.aload_n 0, 1) := by decide +kernel
theorem dX2_init_10 : decode cX2_init 10 = .ok (.iconst 0, 1) := by decide +kernel
theorem dX2_init_11 : decode cX2_init 11 = .ok (.putfield 15, 3) := by decide +kernel
theorem dX2_init_14 : decode cX2_init 14 = .ok (.aload_n 0, 1) := by decide +kernel
theorem dX2_init_15 : decode cX2_init 15 = .ok (.iconst 0, 1) := by decide +kernel
theorem dX2_init_16 : decode cX2_init 16 = .ok (.putfield 19, 3) := by decide +kernel
theorem dX2_init_19 : decode cX2_init 19 = .ok (.aload_n 0, 1) := by decide +kernel
theorem dX2_init_20 : decode cX2_init 20 = .ok (.iconst (-1), 1) := by decide +kernel
theorem dX2_init_21 : decode cX2_init 21 = .ok (.putfield 22, 3) := by decide +kernel
theorem dX2_init_24 : decode cX2_init 24 = .ok (.aload_n 0, 1) := by decide +kernel
theorem dX2_init_25 : decode cX2_init 25 = .ok (.iconst (-1), 1) := by decide +kernel
theorem dX2_init_26 : decode cX2_init 26 = .ok (.putfield 25, 3) := by decide +kernel
theorem dX2_init_29 : decode cX2_init 29 = .ok (.aload_n 0, 1) := by decide +kernel
theorem dX2_init_30 : decode cX2_init 30 = .ok (.iconst (-1), 1) := by decide +kernel
theorem dX2_init_31 : decode cX2_init 31 = .ok (.putfield 28, 3) := by decide +kernel
theorem dX2_init_34 : decode cX2_init 34 = .ok (.return_, 1) := by decide +kernel
theorem dX2_copyFrom_0 : decode cX2_copyFrom 0 = .ok (.aload_n 0, 1) := by decide +kernel
theorem dX2_copyFrom_1 : decode cX2_copyFrom 1 = .ok (.aload_n 1, 1) := by decide +kernel
theorem dX2_copyFrom_2 : decode cX2_copyFrom 2 = .ok (.getfield 9, 3) := by decide +kernel
theorem dX2_copyFrom_5 : decode cX2_copyFrom 5 = .ok (.putfield 9, 3) := by decide +kernel
theorem dX2_copyFrom_8 : decode cX2_copyFrom 8 = .ok (.aload_n 0, 1) := by decide +kernel
theorem dX2_copyFrom_9 : decode cX2_copyFrom 9 = .ok (.aload_n 1, 1) := by decide +kernel
theorem dX2_copyFrom_10 : decode cX2_copyFrom 10 = .ok (.getfield 15, 3) := by decide +kernel
theorem dX2_copyFrom_13 : decode cX2_copyFrom 13 = .ok (.putfield 15, 3) := by decide +kernel
theorem dX2_copyFrom_16 : decode cX2_copyFrom 16 = .ok (.aload_n 0, 1) := by decide +kernel
theorem dX2_copyFrom_17 : decode cX2_copyFrom 17 = .ok (.aload_n 1, 1) := by decide +kernel
theorem dX2_copyFrom_18 : decode cX2_copyFrom 18 = .ok (.getfield 19, 3) := by decide +kernel
theorem dX2_copyFrom_21 : decode cX2_copyFrom 21 = .ok (.putfield 19, 3) := by decide +kernel
theorem dX2_copyFrom_24 : decode cX2_copyFrom 24 = .ok (.aload_n 0, 1) := by decide +kernel
theorem dX2_copyFrom_25 : decode cX2_copyFrom 25 = .ok (.aload_n 1, 1) := by decide +kernel
theorem dX2_copyFrom_26 : decode cX2_copyFrom 26 = .ok (.getfield 22, 3) := by decide +kernel
theorem dX2_copyFrom_29 : decode cX2_copyFrom 29 = .ok (.putfield 22, 3) := by decide +kernel
theorem dX2_copyFrom_32 : decode cX2_copyFrom 32 = .ok (.aload_n 0, 1) := by decide +kernel
theorem dX2_copyFrom_33 : decode cX2_copyFrom 33 = .ok (.aload_n 1, 1) := by decide +kernel
theorem dX2_copyFrom_34 : decode cX2_copyFrom 34 = .ok (.getfield 25, 3) := by decide +kernel
theorem dX2_copyFrom_37 : decode cX2_copyFrom 37 = .ok (.putfield 25, 3) := by decide +kernel
theorem dX2_copyFrom_40 : decode cX2_copyFrom 40 = .ok (.aload_n 0, 1) := by decide +kernel
theorem dX2_copyFrom_41 : decode cX2_copyFrom 41 = .ok (.aload_n 1, 1) := by decide +kernel
theorem dX2_copyFrom_42 : decode cX2_copyFrom 42 = .ok (.getfield 28, 3) := by decide +kernel
theorem dX2_copyFrom_45 : decode cX2_copyFrom 45 = .ok (.putfield 28, 3) := by decide +kernel
theorem dX2_copyFrom_48 : decode cX2_copyFrom 48 = .ok (.return_, 1) := by decide +kernel
theorem dX2_isIdle_0 : decode cX2_isIdle 0 = .ok (.aload_n 0, 1) := by decide +kernel
theorem dX2_isIdle_1 : decode cX2_isIdle 1 = .ok (.getfield 9, 3) := by decide +kernel
theorem dX2_isIdle_4 : decode cX2_isIdle 4 = .ok (.ifCond .eq 14, 3) := by decide +kernel
theorem dX2_isIdle_7 : decode cX2_isIdle 7 = .ok (.aload_n 0, 1) := by decide +kernel
theorem dX2_isIdle_8 : decode cX2_isIdle 8 = .ok (.getfield 15, 3) := by decide +kernel
theorem dX2_isIdle_11 : decode cX2_isIdle 11 = .ok (.ifCond .ne 7, 3) := by decide +kernel
theorem dX2_isIdle_14 : decode cX2_isIdle 14 = .ok (.iconst 1, 1) := by decide +kernel
theorem dX2_isIdle_15 : decode cX2_isIdle 15 = .ok (.goto 4, 3) := by decide +kernel
theorem dX2_isIdle_18 : decode cX2_isIdle 18 = .ok (.iconst 0, 1) := by decide +kernel
theorem dX2_isIdle_19 : decode cX2_isIdle 19 = .ok (.ireturn, 1) := by decide +kernel
set_option maxRecDepth 20000 in
theorem ggX2_mixAll_X4_mix : GoodIn wsX2_mixAll wsX4_mix := goodIn_r _ [7, 8] (by decide +kernel) (by decide +kernel)
set_option maxRecDepth 20000 in
theorem gX2_mixAll_X4_mix_n31 : GoodIn wsX2_mixAll (wsX4_mix) := ggX2_mixAll_X4_mix
theorem dX2_mixAll_0 : decode cX2_mixAll 0 = .ok (.lload_n 1, 1) := by decide +kernel
theorem dX2_mixAll_1 : decode cX2_mixAll 1 = .ok (.aload_n 0, 1) := by decide +kernel
theorem dX2_mixAll_2 : decode cX2_mixAll 2 = .ok (.getfield 9, 3) := by decide +kernel
theorem dX2_mixAll_5 : decode cX2_mixAll 5 = .ok (.ifCond .eq 7, 3) := by decide +kernel
theorem dX2_mixAll_8 : decode cX2_mixAll 8 = .ok (.lconst 1, 1) := by decide +kernel
theorem dX2_mixAll_9 : decode cX2_mixAll 9 = .ok (.goto 4, 3) := by decide +kernel
theorem dX2_mixAll_12 : decode cX2_mixAll 12 = .ok (.lconst 0, 1) := by decide +kernel
theorem dX2_mixAll_13 : decode cX2_mixAll 13 = .ok (.invokestatic 31, 3) := by decide +kernel
theorem dX2_mixAll_16 : decode cX2_mixAll 16 = .ok (.lstore_n 3, 1) := by decide +kernel
theorem dX2_mixAll_17 : decode cX2_mixAll 17 = .ok (.lload_n 3, 1) := by decide +kernel
theorem dX2_mixAll_18 : decode cX2_mixAll 18 = .ok (.aload_n 0, 1) := by decide +kernel
theorem dX2_mixAll_19 : decode cX2_mixAll 19 = .ok (.getfield 15, 3) := by decide +kernel
theorem dX2_mixAll_22 : decode cX2_mixAll 22 = .ok (.i2l, 1) := by decide +kernel
theorem dX2_mixAll_23 : decode cX2_mixAll 23 = .ok (.invokestatic 31, 3) := by decide +kernel
theorem dX2_mixAll_26 : decode cX2_mixAll 26 = .ok (.lstore_n 3, 1) := by decide +kernel
theorem dX2_mixAll_27 : decode cX2_mixAll 27 = .ok (.lload_n 3, 1) := by decide +kernel
theorem dX2_mixAll_28 : decode cX2_mixAll 28 = .ok (.aload_n 0, 1) := by decide +kernel
theorem dX2_mixAll_29 : decode cX2_mixAll 29 = .ok (.getfield 19, 3) := by decide +kernel
theorem dX2_mixAll_32 : decode cX2_mixAll 32 = .ok (.i2l, 1) := by decide +kernel
theorem dX2_mixAll_33 : decode cX2_mixAll 33 = .ok (.invokestatic 31, 3) := by decide +kernel
theorem dX2_mixAll_36 : decode cX2_mixAll 36 = .ok (.lstore_n 3, 1) := by decide +kernel
theorem dX2_mixAll_37 : decode cX2_mixAll 37 = .ok (.lload_n 3, 1) := by decide +kernel
theorem dX2_mixAll_38 : decode cX2_mixAll 38 = .ok (.aload_n 0, 1) := by decide +kernel
theorem dX2_mixAll_39 : decode cX2_mixAll 39 = .ok (.getfield 22, 3) := by decide +kernel
theorem dX2_mixAll_42 : decode cX2_mixAll 42 = .ok (.i2l, 1) := by decide +kernel
theorem dX2_mixAll_43 : decode cX2_mixAll 43 = .ok (.invokestatic 31, 3) := by decide +kernel
theorem dX2_mixAll_46 : decode cX2_mixAll 46 = .ok (.lreturn, 1) := by decide +kernel
set_option maxRecDepth 20000 in
theorem ggX3_init_X2_init : GoodIn wsX3_init wsX2_init := goodIn_r _ [27, 28, 2, 3, 29, 30, 31, 32, 33, 34, 69, 70, 71, 72, 73, 74] (by decide +kernel) (by decide +kernel)
set_option maxRecDepth 20000 in
theorem gX3_init_X2_init : GoodIn wsX3_init (wsX2_init) := ggX3_init_X2_init
set_option maxRecDepth 20000 in
theorem ggX3_init_X0_init : GoodIn wsX3_init wsX0_init := goodIn_r _ [37, 38, 2, 3, 39, 40, 41, 23, 42, 43, 75, 76, 77, 78, 79] (by decide +kernel) (by decide +kernel)
set_option maxRecDepth 20000 in
theorem gX3_init_X0_init : GoodIn wsX3_init (wsX0_init) := ggX3_init_X0_init
set_option maxRecDepth 20000 in
theorem ggX3_init_X1_init : GoodIn wsX3_init wsX1_init := goodIn_r _ [46, 47, 2, 3, 48, 49, 50, 51, 52, 23, 53, 54, 55, 56, 57, 80, 81, 82, 83, 84, 85, 86, 87, 88, 89] (by decide +kernel) (by decide +kernel)
set_option maxRecDepth 20000 in
theorem gX3_init_X1_init : GoodIn wsX3_init (wsX1_init) := ggX3_init_X1_init
theorem dX3_init_0 : decode cX3_init 0 = .ok (.aload_n 0, 1) := by decide +kernel
theorem dX3_init_1 : decode cX3_init 1 = .ok (.invokespecial 3, 3) := by decide +kernel
theorem dX3_init_4 : decode cX3_init 4 = .ok (.aload_n 0, 1) := by decide +kernel
theorem dX3_init_5 : decode cX3_init 5 = .ok (.iconst 0, 1) := by decide +kernel
theorem dX3_init_6 : decode cX3_init 6 = .ok (.putfield 9, 3) := by decide +kernel
theorem dX3_init_9 : decode cX3_init 9 = .ok (.aload_n 0, 1) := by decide +kernel
theorem dX3_init_10 : decode cX3_init 10 = .ok (.lconst 1, 1) := by decide +kernel
theorem dX3_init_11 : decode cX3_init 11 = .ok (.putfield 15, 3) := by decide +kernel
theorem dX3_init_14 : decode cX3_init 14 = .ok (.aload_n 0, 1) := by decide +kernel
theorem dX3_init_15 : decode cX3_init 15 = .ok (.iconst 0, 1) := by decide +kernel
theorem dX3_init_16 : decode cX3_init 16 = .ok (.putfield 19, 3) := by decide +kernel
theorem dX3_init_19 : decode cX3_init 19 = .ok (.aload_n 0, 1) := by decide +kernel
theorem dX3_init_20 : decode cX3_init 20 = .ok (.bipush 8, 2) := by decide +kernel
theorem dX3_init_22 : decode cX3_init 22 = .ok (.putfield 22, 3) := by decide +kernel
theorem dX3_init_25 : decode cX3_init 25 = .ok (.aload_n 0, 1) := by decide +kernel
theorem dX3_init_26 : decode cX3_init 26 = .ok (.iconst 0, 1) := by decide +kernel
theorem dX3_init_27 : decode cX3_init 27 = .ok (.putfield 25, 3) := by decide +kernel
theorem dX3_init_30 : decode cX3_init 30 = .ok (.aload_n 0, 1) := by decide +kernel
theorem dX3_init_31 : decode cX3_init 31 = .ok (.iconst 0, 1) := by decide +kernel
theorem dX3_init_32 : decode cX3_init 32 = .ok (.putfield 28, 3) := by decide +kernel
theorem dX3_init_35 : decode cX3_init 35 = .ok (.aload_n 0, 1) := by decide +kernel
theorem dX3_init_36 : decode cX3_init 36 = .ok (.bipush 8, 2) := by decide +kernel
theorem dX3_init_38 : decode cX3_init 38 = .ok (.anewarray 31, 3) := by decide +kernel
theorem dX3_init_41 : decode cX3_init 41 = .ok (.putfield 33, 3) := by decide +kernel
theorem dX3_init_44 : decode cX3_init 44 = .ok (.iconst 0, 1) := by decide +kernel
theorem dX3_init_45 : decode cX3_init 45 = .ok (.istore_n 1, 1) := by decide +kernel
theorem dX3_init_46 : decode cX3_init 46 = .ok (.iload_n 1, 1) := by decide +kernel
theorem dX3_init_47 : decode cX3_init 47 = .ok (.bipush 8, 2) := by decide +kernel
theorem dX3_init_49 : decode cX3_init 49 = .ok (.if_icmp .ge 22, 3) := by decide +kernel
theorem dX3_init_52 : decode cX3_init 52 = .ok (.aload_n 0, 1) := by decide +kernel
theorem dX3_init_53 : decode cX3_init 53 = .ok (.getfield 33, 3) := by decide +kernel
theorem dX3_init_56 : decode cX3_init 56 = .ok (.iload_n 1, 1) := by decide +kernel
theorem dX3_init_57 : decode cX3_init 57 = .ok (.new 31, 3) := by decide +kernel
theorem dX3_init_60 : decode cX3_init 60 = .ok (.dup, 1) := by decide +kernel
theorem dX3_init_61 : decode cX3_init 61 = .ok (.invokespecial 37, 3) := by decide +kernel
theorem dX3_init_64 : decode cX3_init 64 = .ok (.aastore, 1) := by decide +kernel
theorem dX3_init_65 : decode cX3_init 65 = .ok (.iinc 1 1, 3) := by decide +kernel
theorem dX3_init_68 : decode cX3_init 68 = .ok (.goto (-22), 3) := by decide +kernel
theorem dX3_init_71 : decode cX3_init 71 = .ok (.aload_n 0, 1) := by decide +kernel
theorem dX3_init_72 : decode cX3_init 72 = .ok (.iconst 4, 1) := by decide +kernel
theorem dX3_init_73 : decode cX3_init 73 = .ok (.anewarray 38, 3) := by decide +kernel
theorem dX3_init_76 : decode cX3_init 76 = .ok (.putfield 40, 3) := by decide +kernel
theorem dX3_init_79 : decode cX3_init 79 = .ok (.iconst 0, 1) := by decide +kernel
theorem dX3_init_80 : decode cX3_init 80 = .ok (.istore_n 1, 1) := by decide +kernel
theorem dX3_init_81 : decode cX3_init 81 = .ok (.iload_n 1, 1) := by decide +kernel
theorem dX3_init_82 : decode cX3_init 82 = .ok (.iconst 4, 1) := by decide +kernel
theorem dX3_init_83 : decode cX3_init 83 = .ok (.if_icmp .ge 22, 3) := by decide +kernel
theorem dX3_init_86 : decode cX3_init 86 = .ok (.aload_n 0, 1) := by decide +kernel
theorem dX3_init_87 : decode cX3_init 87 = .ok (.getfield 40, 3) := by decide +kernel
theorem dX3_init_90 : decode cX3_init 90 = .ok (.iload_n 1, 1) := by decide +kernel
theorem dX3_init_91 : decode cX3_init 91 = .ok (.new 38, 3) := by decide +kernel
theorem dX3_init_94 : decode cX3_init 94 = .ok (.dup, 1) := by decide +kernel
theorem dX3_init_95 : decode cX3_init 95 = .ok (.invokespecial 44, 3) := by decide +kernel
theorem dX3_init_98 : decode cX3_init 98 = .ok (.aastore, 1) := by decide +kernel
theorem dX3_init_99 : decode cX3_init 99 = .ok (.iinc 1 1, 3) := by decide +kernel
theorem dX3_init_102 : decode cX3_init 102 = .ok (.goto (-21), 3) := by decide +kernel
theorem dX3_init_105 : decode cX3_init 105 = .ok (.aload_n 0, 1) := by decide +kernel
theorem dX3_init_106 : decode cX3_init 106 = .ok (.new 45, 3) := by decide +kernel
theorem dX3_init_109 : decode cX3_init 109 = .ok (.dup, 1) := by decide +kernel
theorem dX3_init_110 : decode cX3_init 110 = .ok (.invokespecial 47, 3) := by decide +kernel
theorem dX3_init_113 : decode cX3_init 113 = .ok (.putfield 48, 3) := by decide +kernel
theorem dX3_init_116 : decode cX3_init 116 = .ok (.aload_n 0, 1) := by decide +kernel
theorem dX3_init_117 : decode cX3_init 117 = .ok (.iconst 0, 1) := by decide +kernel
theorem dX3_init_118 : decode cX3_init 118 = .ok (.putfield 52, 3) := by decide +kernel
theorem dX3_init_121 : decode cX3_init 121 = .ok (.aload_n 0, 1) := by decide +kernel
theorem dX3_init_122 : decode cX3_init 122 = .ok (.bipush 8, 2) := by decide +kernel
theorem dX3_init_124 : decode cX3_init 124 = .ok (.newarray .int, 2) := by decide +kernel
theorem dX3_init_126 : decode cX3_init 126 = .ok (.putfield 55, 3) := by decide +kernel
theorem dX3_init_129 : decode cX3_init 129 = .ok (.return_, 1) := by decide +kernel
set_option maxRecDepth 20000 in
theorem ggX3_copyFrom_X2_copyFrom : GoodIn wsX3_copyFrom wsX2_copyFrom := goodIn_r _ [14, 15, 16, 17, 18, 19, 20, 70, 71, 72, 73, 74, 75] (by decide +kernel) (by decide +kernel)
set_option maxRecDepth 20000 in
theorem gX3_copyFrom_X2_copyFrom : GoodIn wsX3_copyFrom (wsV RX3 59 RX2 yX2_copyFrom wsX2_copyFrom) := goodIn_app (goodIn_of _ (by decide +kernel)) ggX3_copyFrom_X2_copyFrom
set_option maxRecDepth 20000 in
theorem ggX3_copyFrom_X0_copyFrom : GoodIn wsX3_copyFrom wsX0_copyFrom := goodIn_r _ [25, 26, 27, 28, 29, 30, 31, 32, 33, 34, 76, 77, 78, 79, 80] (by decide +kernel) (by decide +kernel)
set_option maxRecDepth 20000 in
theorem gX3_copyFrom_X0_copyFrom : GoodIn wsX3_copyFrom (wsV RX3 63 RX0 yX0_copyFrom wsX0_copyFrom) := goodIn_app (goodIn_of _ (by decide +kernel)) ggX3_copyFrom_X0_copyFrom
set_option maxRecDepth 20000 in
theorem ggX3_copyFrom_X1_copyFrom : GoodIn wsX3_copyFrom wsX1_copyFrom := goodIn_r _ [39, 40, 41, 42, 43, 44, 45, 46, 31, 32, 33, 47, 48, 49, 50, 81, 82, 83, 84, 85, 86, 87, 88, 89, 90] (by decide +kernel) (by decide +kernel)
set_option maxRecDepth 20000 in
theorem gX3_copyFrom_X1_copyFrom : GoodIn wsX3_copyFrom (wsV RX3 66 RX1 yX1_copyFrom wsX1_copyFrom) := goodIn_app (goodIn_of _ (by decide +kernel)) ggX3_copyFrom_X1_copyFrom
set_option maxRecDepth 20000 in
theorem ggX3_copyFrom_X3_collectCandidates : GoodIn wsX3_copyFrom wsX3_collectCandidates := goodIn_r _ [55, 56, 5, 7, 57, 58, 59, 60, 61, 62, 63, 64, 65, 66, 67, 68, 69, 70, 71, 72, 73, 74, 75] (by decide +kernel) (by decide +kernel)
set_option maxRecDepth 20000 in
theorem gX3_copyFrom_X3_collectCandidates : GoodIn wsX3_copyFrom (wsV RX3 69 RX3 yX3_collectCandidates wsX3_collectCandidates) := goodIn_app (goodIn_of _ (by decide +kernel)) ggX3_copyFrom_X3_collectCandidates
theorem dX3_copyFrom_0 : decode cX3_copyFrom 0 = .ok (.aload_n 0, 1) := by decide +kernel
theorem dX3_copyFrom_1 : decode cX3_copyFrom 1 = .ok (.aload_n 1, 1) := by decide +kernel
theorem dX3_copyFrom_2 : decode cX3_copyFrom 2 = .ok (.getfield 9, 3) := by decide +kernel
theorem dX3_copyFrom_5 : decode cX3_copyFrom 5 = .ok (.putfield 9, 3) := by decide +kernel
theorem dX3_copyFrom_8 : decode cX3_copyFrom 8 = .ok (.aload_n 0, 1) := by decide +kernel
theorem dX3_copyFrom_9 : decode cX3_copyFrom 9 = .ok (.aload_n 1, 1) := by decide +kernel
theorem dX3_copyFrom_10 : decode cX3_copyFrom 10 = .ok (.getfield 15, 3) := by decide +kernel
theorem dX3_copyFrom_13 : decode cX3_copyFrom 13 = .ok (.putfield 15, 3) := by decide +kernel
theorem dX3_copyFrom_16 : decode cX3_copyFrom 16 = .ok (.aload_n 0, 1) := by decide +kernel
theorem dX3_copyFrom_17 : decode cX3_copyFrom 17 = .ok (.aload_n 1, 1) := by decide +kernel
theorem dX3_copyFrom_18 : decode cX3_copyFrom 18 = .ok (.getfield 19, 3) := by decide +kernel
theorem dX3_copyFrom_21 : decode cX3_copyFrom 21 = .ok (.putfield 19, 3) := by decide +kernel
theorem dX3_copyFrom_24 : decode cX3_copyFrom 24 = .ok (.aload_n 0, 1) := by decide +kernel
theorem dX3_copyFrom_25 : decode cX3_copyFrom 25 = .ok (.aload_n 1, 1) := by decide +kernel
theorem dX3_copyFrom_26 : decode cX3_copyFrom 26 = .ok (.getfield 22, 3) := by decide +kernel
theorem dX3_copyFrom_29 : decode cX3_copyFrom 29 = .ok (.putfield 22, 3) := by decide +kernel
theorem dX3_copyFrom_32 : decode cX3_copyFrom 32 = .ok (.aload_n 0, 1) := by decide +kernel
theorem dX3_copyFrom_33 : decode cX3_copyFrom 33 = .ok (.aload_n 1, 1) := by decide +kernel
theorem dX3_copyFrom_34 : decode cX3_copyFrom 34 = .ok (.getfield 25, 3) := by decide +kernel
theorem dX3_copyFrom_37 : decode cX3_copyFrom 37 = .ok (.putfield 25, 3) := by decide +kernel
theorem dX3_copyFrom_40 : decode cX3_copyFrom 40 = .ok (.aload_n 0, 1) := by decide +kernel
theorem dX3_copyFrom_41 : decode cX3_copyFrom 41 = .ok (.aload_n 1, 1) := by decide +kernel
theorem dX3_copyFrom_42 : decode cX3_copyFrom 42 = .ok (.getfield 28, 3) := by decide +kernel
theorem dX3_copyFrom_45 : decode cX3_copyFrom 45 = .ok (.putfield 28, 3) := by decide +kernel
theorem dX3_copyFrom_48 : decode cX3_copyFrom 48 = .ok (.iconst 0, 1) := by decide +kernel
theorem dX3_copyFrom_49 : decode cX3_copyFrom 49 = .ok (.istore_n 2, 1) := by decide +kernel
theorem dX3_copyFrom_50 : decode cX3_copyFrom 50 = .ok (.iload_n 2, 1) := by decide +kernel
theorem dX3_copyFrom_51 : decode cX3_copyFrom 51 = .ok (.bipush 8, 2) := by decide +kernel
theorem dX3_copyFrom_53 : decode cX3_copyFrom 53 = .ok (.if_icmp .ge 24, 3) := by decide +kernel
theorem dX3_copyFrom_56 : decode cX3_copyFrom 56 = .ok (.aload_n 0, 1) := by decide +kernel
theorem dX3_copyFrom_57 : decode cX3_copyFrom 57 = .ok (.getfield 33, 3) := by decide +kernel
theorem dX3_copyFrom_60 : decode cX3_copyFrom 60 = .ok (.iload_n 2, 1) := by decide +kernel
theorem dX3_copyFrom_61 : decode cX3_copyFrom 61 = .ok (.aaload, 1) := by decide +kernel
theorem dX3_copyFrom_62 : decode cX3_copyFrom 62 = .ok (.aload_n 1, 1) := by decide +kernel
theorem dX3_copyFrom_63 : decode cX3_copyFrom 63 = .ok (.getfield 33, 3) := by decide +kernel
theorem dX3_copyFrom_66 : decode cX3_copyFrom 66 = .ok (.iload_n 2, 1) := by decide +kernel
theorem dX3_copyFrom_67 : decode cX3_copyFrom 67 = .ok (.aaload, 1) := by decide +kernel
theorem dX3_copyFrom_68 : decode cX3_copyFrom 68 = .ok (.invokevirtual 59, 3) := by decide +kernel
theorem dX3_copyFrom_71 : decode cX3_copyFrom 71 = .ok (.iinc 2 1, 3) := by decide +kernel
theorem dX3_copyFrom_74 : decode cX3_copyFrom 74 = .ok (.goto (-24), 3) := by decide +kernel
theorem dX3_copyFrom_77 : decode cX3_copyFrom 77 = .ok (.iconst 0, 1) := by decide +kernel
theorem dX3_copyFrom_78 : decode cX3_copyFrom 78 = .ok (.istore_n 2, 1) := by decide +kernel
theorem dX3_copyFrom_79 : decode cX3_copyFrom 79 = .ok (.iload_n 2, 1) := by decide +kernel
theorem dX3_copyFrom_80 : decode cX3_copyFrom 80 = .ok (.iconst 4, 1) := by decide +kernel
theorem dX3_copyFrom_81 : decode cX3_copyFrom 81 = .ok (.if_icmp .ge 24, 3) := by decide +kernel
theorem dX3_copyFrom_84 : decode cX3_copyFrom 84 = .ok (.aload_n 0, 1) := by decide +kernel
theorem dX3_copyFrom_85 : decode cX3_copyFrom 85 = .ok (.getfield 40, 3) := by decide +kernel
theorem dX3_copyFrom_88 : decode cX3_copyFrom 88 = .ok (.iload_n 2, 1) := by decide +kernel
theorem dX3_copyFrom_89 : decode cX3_copyFrom 89 = .ok (.aaload, 1) := by decide +kernel
theorem dX3_copyFrom_90 : decode cX3_copyFrom 90 = .ok (.aload_n 1, 1) := by decide +kernel
theorem dX3_copyFrom_91 : decode cX3_copyFrom 91 = .ok (.getfield 40, 3) := by decide +kernel
theorem dX3_copyFrom_94 : decode cX3_copyFrom 94 = .ok (.iload_n 2, 1) := by decide +kernel
theorem dX3_copyFrom_95 : decode cX3_copyFrom 95 = .ok (.aaload, 1) := by decide +kernel
theorem dX3_copyFrom_96 : decode cX3_copyFrom 96 = .ok (.invokevirtual 63, 3) := by decide +kernel
theorem dX3_copyFrom_99 : decode cX3_copyFrom 99 = .ok (.iinc 2 1, 3) := by decide +kernel
theorem dX3_copyFrom_102 : decode cX3_copyFrom 102 = .ok (.goto (-23), 3) := by decide +kernel
theorem dX3_copyFrom_105 : decode cX3_copyFrom 105 = .ok (.aload_n 0, 1) := by decide +kernel
theorem dX3_copyFrom_106 : decode cX3_copyFrom 106 = .ok (.getfield 48, 3) := by decide +kernel
theorem dX3_copyFrom_109 : decode cX3_copyFrom 109 = .ok (.aload_n 1, 1) := by decide +kernel
theorem dX3_copyFrom_110 : decode cX3_copyFrom 110 = .ok (.getfield 48, 3) := by decide +kernel
theorem dX3_copyFrom_113 : decode cX3_copyFrom 113 = .ok (.invokevirtual 66, 3) := by decide +kernel
theorem dX3_copyFrom_116 : decode cX3_copyFrom 116 = .ok (.aload_n 0, 1) := by decide +kernel
theorem dX3_copyFrom_117 : decode cX3_copyFrom 117 = .ok (.invokevirtual 69, 3) := by decide +kernel
theorem dX3_copyFrom_120 : decode cX3_copyFrom 120 = .ok (.return_, 1) := by decide +kernel
set_option maxRecDepth 20000 in
theorem ggX3_openServer_X3_collectCandidates : GoodIn wsX3_openServer wsX3_collectCandidates := goodIn_r _ [6, 7, 1, 8, 9, 10, 40, 41, 42, 43, 44, 45, 46, 47, 48, 49, 50, 51, 52, 53, 54, 55, 56] (by decide +kernel) (by decide +kernel)
set_option maxRecDepth 20000 in
theorem gX3_openServer_X3_collectCandidates : GoodIn wsX3_openServer (wsV RX3 69 RX3 yX3_collectCandidates wsX3_collectCandidates) := goodIn_app (goodIn_of _ (by decide +kernel)) ggX3_openServer_X3_collectCandidates
set_option maxRecDepth 20000 in
theorem ggX3_openServer_X3_register : GoodIn wsX3_openServer wsX3_register := goodIn_r _ [14, 15, 16, 8, 17, 18, 19, 20, 5, 21, 22, 23, 24, 25, 26, 27, 28, 29, 30, 31, 32, 33, 34, 35, 36, 37, 38, 39, 40, 41, 42, 43, 44, 45, 46, 47, 48, 49, 50, 51, 52, 53, 54, 55, 56, 57, 58, 59, 60, 61] (by decide +kernel) (by decide +kernel)
set_option maxRecDepth 20000 in
theorem gX3_openServer_X3_register : GoodIn wsX3_openServer (wsV RX3 72 RX3 yX3_register wsX3_register) := goodIn_app (goodIn_of _ (by decide +kernel)) ggX3_openServer_X3_register
theorem dX3_openServer_0 : decode cX3_openServer 0 = .ok (.aload_n 0, 1) := by decide +kernel
theorem dX3_openServer_1 : decode cX3_openServer 1 = .ok (.getfield 25, 3) := by decide +kernel
theorem dX3_openServer_4 : decode cX3_openServer 4 = .ok (.istore_n 1, 1) := by decide +kernel
theorem dX3_openServer_5 : decode cX3_openServer 5 = .ok (.aload_n 0, 1) := by decide +kernel
theorem dX3_openServer_6 : decode cX3_openServer 6 = .ok (.dup, 1) := by decide +kernel
theorem dX3_openServer_7 : decode cX3_openServer 7 = .ok (.getfield 25, 3) := by decide +kernel
theorem dX3_openServer_10 : decode cX3_openServer 10 = .ok (.iconst 1, 1) := by decide +kernel
theorem dX3_openServer_11 : decode cX3_openServer 11 = .ok (.iadd, 1) := by decide +kernel
theorem dX3_openServer_12 : decode cX3_openServer 12 = .ok (.putfield 25, 3) := by decide +kernel
theorem dX3_openServer_15 : decode cX3_openServer 15 = .ok (.aload_n 0, 1) := by decide +kernel
theorem dX3_openServer_16 : decode cX3_openServer 16 = .ok (.invokevirtual 69, 3) := by decide +kernel
theorem dX3_openServer_19 : decode cX3_openServer 19 = .ok (.aload_n 0, 1) := by decide +kernel
theorem dX3_openServer_20 : decode cX3_openServer 20 = .ok (.iload_n 1, 1) := by decide +kernel
theorem dX3_openServer_21 : decode cX3_openServer 21 = .ok (.invokevirtual 72, 3) := by decide +kernel
theorem dX3_openServer_24 : decode cX3_openServer 24 = .ok (.iload_n 1, 1) := by decide +kernel
theorem dX3_openServer_25 : decode cX3_openServer 25 = .ok (.ireturn, 1) := by decide +kernel
theorem dX3_openDispatcher_0 : decode cX3_openDispatcher 0 = .ok (.aload_n 0, 1) := by decide +kernel
theorem dX3_openDispatcher_1 : decode cX3_openDispatcher 1 = .ok (.getfield 28, 3) := by decide +kernel
theorem dX3_openDispatcher_4 : decode cX3_openDispatcher 4 = .ok (.istore_n 2, 1) := by decide +kernel
theorem dX3_openDispatcher_5 : decode cX3_openDispatcher 5 = .ok (.aload_n 0, 1) := by decide +kernel
theorem dX3_openDispatcher_6 : decode cX3_openDispatcher 6 = .ok (.dup, 1) := by decide +kernel
theorem dX3_openDispatcher_7 : decode cX3_openDispatcher 7 = .ok (.getfield 28, 3) := by decide +kernel
theorem dX3_openDispatcher_10 : decode cX3_openDispatcher 10 = .ok (.iconst 1, 1) := by decide +kernel
theorem dX3_openDispatcher_11 : decode cX3_openDispatcher 11 = .ok (.iadd, 1) := by decide +kernel
theorem dX3_openDispatcher_12 : decode cX3_openDispatcher 12 = .ok (.putfield 28, 3) := by decide +kernel
theorem dX3_openDispatcher_15 : decode cX3_openDispatcher 15 = .ok (.aload_n 0, 1) := by decide +kernel
theorem dX3_openDispatcher_16 : decode cX3_openDispatcher 16 = .ok (.getfield 40, 3) := by decide +kernel
theorem dX3_openDispatcher_19 : decode cX3_openDispatcher 19 = .ok (.iload_n 2, 1) := by decide +kernel
theorem dX3_openDispatcher_20 : decode cX3_openDispatcher 20 = .ok (.aaload, 1) := by decide +kernel
theorem dX3_openDispatcher_21 : decode cX3_openDispatcher 21 = .ok (.iload_n 1, 1) := by decide +kernel
theorem dX3_openDispatcher_22 : decode cX3_openDispatcher 22 = .ok (.putfield 76, 3) := by decide +kernel
theorem dX3_openDispatcher_25 : decode cX3_openDispatcher 25 = .ok (.iload_n 2, 1) := by decide +kernel
theorem dX3_openDispatcher_26 : decode cX3_openDispatcher 26 = .ok (.ireturn, 1) := by decide +kernel
set_option maxRecDepth 20000 in
theorem ggX3_switchServer_X3_collectCandidates : GoodIn wsX3_switchServer wsX3_collectCandidates := goodIn_r _ [8, 9, 10, 1, 2, 11, 49, 50, 51, 52, 53, 54, 55, 56, 57, 58, 59, 60, 61, 62, 63, 64, 65] (by decide +kernel) (by decide +kernel)
set_option maxRecDepth 20000 in
theorem gX3_switchServer_X3_collectCandidates : GoodIn wsX3_switchServer (wsV RX3 69 RX3 yX3_collectCandidates wsX3_collectCandidates) := goodIn_app (goodIn_of _ (by decide +kernel)) ggX3_switchServer_X3_collectCandidates
set_option maxRecDepth 20000 in
theorem ggX3_switchServer_X3_leaveIdleList : GoodIn wsX3_switchServer wsX3_leaveIdleList := goodIn_r _ [15, 1, 16, 17, 18, 19, 20, 21, 22, 23, 24, 49, 50, 51, 52, 53, 54, 55, 56, 57, 58, 59, 60, 61, 62, 63, 64, 65, 66, 67, 68, 69, 70] (by decide +kernel) (by decide +kernel)
set_option maxRecDepth 20000 in
theorem gX3_switchServer_X3_leaveIdleList : GoodIn wsX3_switchServer (wsV RX3 83 RX3 yX3_leaveIdleList wsX3_leaveIdleList) := goodIn_app (goodIn_of _ (by decide +kernel)) ggX3_switchServer_X3_leaveIdleList
set_option maxRecDepth 20000 in
theorem ggX3_switchServer_X3_register : GoodIn wsX3_switchServer wsX3_register := goodIn_r _ [28, 29, 17, 1, 16, 30, 31, 32, 7, 33, 34, 35, 36, 37, 38, 39, 40, 41, 42, 43, 44, 45, 46, 47, 21, 48, 23, 24, 49, 50, 51, 52, 53, 54, 55, 56, 57, 58, 59, 60, 61, 62, 63, 64, 65, 66, 67, 68, 69, 70] (by decide +kernel) (by decide +kernel)
set_option maxRecDepth 20000 in
theorem gX3_switchServer_X3_register : GoodIn wsX3_switchServer (wsV RX3 72 RX3 yX3_register wsX3_register) := goodIn_app (goodIn_of _ (by decide +kernel)) ggX3_switchServer_X3_register
theorem dX3_switchServer_0 : decode cX3_switchServer 0 = .ok (.aload_n 0, 1) := by decide +kernel
theorem dX3_switchServer_1 : decode cX3_switchServer 1 = .ok (.getfield 33, 3) := by decide +kernel
theorem dX3_switchServer_4 : decode cX3_switchServer 4 = .ok (.iload_n 1, 1) := by decide +kernel
theorem dX3_switchServer_5 : decode cX3_switchServer 5 = .ok (.aaload, 1) := by decide +kernel
theorem dX3_switchServer_6 : decode cX3_switchServer 6 = .ok (.astore_n 3, 1) := by decide +kernel
theorem dX3_switchServer_7 : decode cX3_switchServer 7 = .ok (.aload_n 3, 1) := by decide +kernel
theorem dX3_switchServer_8 : decode cX3_switchServer 8 = .ok (.getfield 79, 3) := by decide +kernel
theorem dX3_switchServer_11 : decode cX3_switchServer 11 = .ok (.istore 4, 2) := by decide +kernel
theorem dX3_switchServer_13 : decode cX3_switchServer 13 = .ok (.aload_n 3, 1) := by decide +kernel
theorem dX3_switchServer_14 : decode cX3_switchServer 14 = .ok (.iload_n 2, 1) := by decide +kernel
theorem dX3_switchServer_15 : decode cX3_switchServer 15 = .ok (.putfield 79, 3) := by decide +kernel
theorem dX3_switchServer_18 : decode cX3_switchServer 18 = .ok (.aload_n 0, 1) := by decide +kernel
theorem dX3_switchServer_19 : decode cX3_switchServer 19 = .ok (.invokevirtual 69, 3) := by decide +kernel
theorem dX3_switchServer_22 : decode cX3_switchServer 22 = .ok (.iload_n 2, 1) := by decide +kernel
theorem dX3_switchServer_23 : decode cX3_switchServer 23 = .ok (.ifCond .ne 11, 3) := by decide +kernel
theorem dX3_switchServer_26 : decode cX3_switchServer 26 = .ok (.aload_n 0, 1) := by decide +kernel
theorem dX3_switchServer_27 : decode cX3_switchServer 27 = .ok (.iload_n 1, 1) := by decide +kernel
theorem dX3_switchServer_28 : decode cX3_switchServer 28 = .ok (.invokevirtual 83, 3) := by decide +kernel
theorem dX3_switchServer_31 : decode cX3_switchServer 31 = .ok (.goto 20, 3) := by decide +kernel
theorem dX3_switchServer_34 : decode cX3_switchServer 34 = .ok (.iload 4, 2) := by decide +kernel
theorem dX3_switchServer_36 : decode cX3_switchServer 36 = .ok (.ifCond .ne 15, 3) := by decide +kernel
theorem dX3_switchServer_39 : decode cX3_switchServer 39 = .ok (.aload_n 3, 1) := by decide +kernel
theorem dX3_switchServer_40 : decode cX3_switchServer 40 = .ok (.getfield 86, 3) := by decide +kernel
theorem dX3_switchServer_43 : decode cX3_switchServer 43 = .ok (.ifCond .ne 8, 3) := by decide +kernel
theorem dX3_switchServer_46 : decode cX3_switchServer 46 = .ok (.aload_n 0, 1) := by decide +kernel
theorem dX3_switchServer_47 : decode cX3_switchServer 47 = .ok (.iload_n 1, 1) := by decide +kernel
theorem dX3_switchServer_48 : decode cX3_switchServer 48 = .ok (.invokevirtual 72, 3) := by decide +kernel
theorem dX3_switchServer_51 : decode cX3_switchServer 51 = .ok (.iload 4, 2) := by decide +kernel
theorem dX3_switchServer_53 : decode cX3_switchServer 53 = .ok (.ireturn, 1) := by decide +kernel
theorem dX3_draw_0 : decode cX3_draw 0 = .ok (.aload_n 0, 1) := by decide +kernel
theorem dX3_draw_1 : decode cX3_draw 1 = .ok (.aload_n 0, 1) := by decide +kernel
theorem dX3_draw_2 : decode cX3_draw 2 = .ok (.getfield 15, 3) := by decide +kernel
theorem dX3_draw_5 : decode cX3_draw 5 = .ok (.ldc2_w 89, 3) := by decide +kernel
theorem dX3_draw_8 : decode cX3_draw 8 = .ok (.lmul, 1) := by decide +kernel
theorem dX3_draw_9 : decode cX3_draw 9 = .ok (.ldc2_w 91, 3) := by decide +kernel
theorem dX3_draw_12 : decode cX3_draw 12 = .ok (.ladd, 1) := by decide +kernel
theorem dX3_draw_13 : decode cX3_draw 13 = .ok (.ldc2_w 93, 3) := by decide +kernel
theorem dX3_draw_16 : decode cX3_draw 16 = .ok (.lrem, 1) := by decide +kernel
theorem dX3_draw_17 : decode cX3_draw 17 = .ok (.putfield 15, 3) := by decide +kernel
theorem dX3_draw_20 : decode cX3_draw 20 = .ok (.iload_n 1, 1) := by decide +kernel
theorem dX3_draw_21 : decode cX3_draw 21 = .ok (.iconst 1, 1) := by decide +kernel
theorem dX3_draw_22 : decode cX3_draw 22 = .ok (.if_icmp .ge 7, 3) := by decide +kernel
theorem dX3_draw_25 : decode cX3_draw 25 = .ok (.iconst 0, 1) := by decide +kernel
theorem dX3_draw_26 : decode cX3_draw 26 = .ok (.goto 15, 3) := by decide +kernel
theorem dX3_draw_29 : decode cX3_draw 29 = .ok (.aload_n 0, 1) := by decide +kernel
theorem dX3_draw_30 : decode cX3_draw 30 = .ok (.getfield 15, 3) := by decide +kernel
theorem dX3_draw_33 : decode cX3_draw 33 = .ok (.ldc2_w 95, 3) := by decide +kernel
theorem dX3_draw_36 : decode cX3_draw 36 = .ok (.ldiv, 1) := by decide +kernel
theorem dX3_draw_37 : decode cX3_draw 37 = .ok (.iload_n 1, 1) := by decide +kernel
theorem dX3_draw_38 : decode cX3_draw 38 = .ok (.i2l, 1) := by decide +kernel
theorem dX3_draw_39 : decode cX3_draw 39 = .ok (.lrem, 1) := by decide +kernel
theorem dX3_draw_40 : decode cX3_draw 40 = .ok (.l2i, 1) := by decide +kernel
theorem dX3_draw_41 : decode cX3_draw 41 = .ok (.ireturn, 1) := by decide +kernel
set_option maxRecDepth 20000 in
theorem ggX3_register_X3_chooseList : GoodIn wsX3_register wsX3_chooseList := goodIn_r _ [9, 10, 1, 2, 11, 12, 13, 14, 8, 15, 16, 17, 18, 19, 20, 28, 29, 30, 31, 32, 33, 34, 35, 36, 37, 38, 45, 46, 47, 48, 49] (by decide +kernel) (by decide +kernel)
set_option maxRecDepth 20000 in
theorem gX3_register_X3_chooseList : GoodIn wsX3_register (wsV RX3 97 RX3 yX3_chooseList wsX3_chooseList) := goodIn_app (goodIn_of _ (by decide +kernel)) ggX3_register_X3_chooseList
set_option maxRecDepth 20000 in
theorem ggX3_register_X0_appendIdle : GoodIn wsX3_register wsX0_appendIdle := goodIn_r _ [25, 26, 27, 45, 46, 47, 48, 49] (by decide +kernel) (by decide +kernel)
set_option maxRecDepth 20000 in
theorem gX3_register_X0_appendIdle : GoodIn wsX3_register (wsV RX3 101 RX0 yX0_appendIdle wsX0_appendIdle) := goodIn_app (goodIn_of _ (by decide +kernel)) ggX3_register_X0_appendIdle
theorem dX3_register_0 : decode cX3_register 0 = .ok (.aload_n 0, 1) := by decide +kernel
theorem dX3_register_1 : decode cX3_register 1 = .ok (.getfield 28, 3) := by decide +kernel
theorem dX3_register_4 : decode cX3_register 4 = .ok (.iconst 1, 1) := by decide +kernel
theorem dX3_register_5 : decode cX3_register 5 = .ok (.if_icmp .ge 4, 3) := by decide +kernel
theorem dX3_register_8 : decode cX3_register 8 = .ok (.return_, 1) := by decide +kernel
theorem dX3_register_9 : decode cX3_register 9 = .ok (.aload_n 0, 1) := by decide +kernel
theorem dX3_register_10 : decode cX3_register 10 = .ok (.iload_n 1, 1) := by decide +kernel
theorem dX3_register_11 : decode cX3_register 11 = .ok (.invokevirtual 97, 3) := by decide +kernel
theorem dX3_register_14 : decode cX3_register 14 = .ok (.istore_n 2, 1) := by decide +kernel
theorem dX3_register_15 : decode cX3_register 15 = .ok (.aload_n 0, 1) := by decide +kernel
theorem dX3_register_16 : decode cX3_register 16 = .ok (.getfield 40, 3) := by decide +kernel
theorem dX3_register_19 : decode cX3_register 19 = .ok (.iload_n 2, 1) := by decide +kernel
theorem dX3_register_20 : decode cX3_register 20 = .ok (.aaload, 1) := by decide +kernel
theorem dX3_register_21 : decode cX3_register 21 = .ok (.iload_n 1, 1) := by decide +kernel
theorem dX3_register_22 : decode cX3_register 22 = .ok (.invokevirtual 101, 3) := by decide +kernel
theorem dX3_register_25 : decode cX3_register 25 = .ok (.aload_n 0, 1) := by decide +kernel
theorem dX3_register_26 : decode cX3_register 26 = .ok (.getfield 33, 3) := by decide +kernel
theorem dX3_register_29 : decode cX3_register 29 = .ok (.iload_n 1, 1) := by decide +kernel
theorem dX3_register_30 : decode cX3_register 30 = .ok (.aaload, 1) := by decide +kernel
theorem dX3_register_31 : decode cX3_register 31 = .ok (.iload_n 2, 1) := by decide +kernel
theorem dX3_register_32 : decode cX3_register 32 = .ok (.putfield 104, 3) := by decide +kernel
theorem dX3_register_35 : decode cX3_register 35 = .ok (.return_, 1) := by decide +kernel
set_option maxRecDepth 20000 in
theorem ggX3_chooseList_X3_draw : GoodIn wsX3_chooseList wsX3_draw := goodIn_r _ [9, 10, 11, 12, 13, 14, 15, 16, 17, 18, 19, 20, 21, 22, 23, 24, 25] (by decide +kernel) (by decide +kernel)
set_option maxRecDepth 20000 in
theorem gX3_chooseList_X3_draw : GoodIn wsX3_chooseList (wsV RX3 107 RX3 yX3_draw wsX3_draw) := goodIn_app (goodIn_of _ (by decide +kernel)) ggX3_chooseList_X3_draw
theorem dX3_chooseList_0 : decode cX3_chooseList 0 = .ok (.aload_n 0, 1) := by decide +kernel
theorem dX3_chooseList_1 : decode cX3_chooseList 1 = .ok (.getfield 19, 3) := by decide +kernel
theorem dX3_chooseList_4 : decode cX3_chooseList 4 = .ok (.iconst 2, 1) := by decide +kernel
theorem dX3_chooseList_5 : decode cX3_chooseList 5 = .ok (.if_icmp .ne 22, 3) := by decide +kernel
theorem dX3_chooseList_8 : decode cX3_chooseList 8 = .ok (.aload_n 0, 1) := by decide +kernel
theorem dX3_chooseList_9 : decode cX3_chooseList 9 = .ok (.getfield 28, 3) := by decide +kernel
theorem dX3_chooseList_12 : decode cX3_chooseList 12 = .ok (.iconst 1, 1) := by decide +kernel
theorem dX3_chooseList_13 : decode cX3_chooseList 13 = .ok (.if_icmp .ge 7, 3) := by decide +kernel
theorem dX3_chooseList_16 : decode cX3_chooseList 16 = .ok (.iconst 0, 1) := by decide +kernel
theorem dX3_chooseList_17 : decode cX3_chooseList 17 = .ok (.goto 9, 3) := by decide +kernel
theorem dX3_chooseList_20 : decode cX3_chooseList 20 = .ok (.iload_n 1, 1) := by decide +kernel
theorem dX3_chooseList_21 : decode cX3_chooseList 21 = .ok (.aload_n 0, 1) := by decide +kernel
theorem dX3_chooseList_22 : decode cX3_chooseList 22 = .ok (.getfield 28, 3) := by decide +kernel
theorem dX3_chooseList_25 : decode cX3_chooseList 25 = .ok (.irem, 1) := by decide +kernel
theorem dX3_chooseList_26 : decode cX3_chooseList 26 = .ok (.ireturn, 1) := by decide +kernel
theorem dX3_chooseList_27 : decode cX3_chooseList 27 = .ok (.aload_n 0, 1) := by decide +kernel
theorem dX3_chooseList_28 : decode cX3_chooseList 28 = .ok (.aload_n 0, 1) := by decide +kernel
theorem dX3_chooseList_29 : decode cX3_chooseList 29 = .ok (.getfield 28, 3) := by decide +kernel
theorem dX3_chooseList_32 : decode cX3_chooseList 32 = .ok (.invokevirtual 107, 3) := by decide +kernel
theorem dX3_chooseList_35 : decode cX3_chooseList 35 = .ok (.istore_n 2, 1) := by decide +kernel
theorem dX3_chooseList_36 : decode cX3_chooseList 36 = .ok (.aload_n 0, 1) := by decide +kernel
theorem dX3_chooseList_37 : decode cX3_chooseList 37 = .ok (.getfield 19, 3) := by decide +kernel
theorem dX3_chooseList_40 : decode cX3_chooseList 40 = .ok (.iconst 1, 1) := by decide +kernel
theorem dX3_chooseList_41 : decode cX3_chooseList 41 = .ok (.if_icmp .eq 5, 3) := by decide +kernel
theorem dX3_chooseList_44 : decode cX3_chooseList 44 = .ok (.iload_n 2, 1) := by decide +kernel
theorem dX3_chooseList_45 : decode cX3_chooseList 45 = .ok (.ireturn, 1) := by decide +kernel
theorem dX3_chooseList_46 : decode cX3_chooseList 46 = .ok (.aload_n 0, 1) := by decide +kernel
theorem dX3_chooseList_47 : decode cX3_chooseList 47 = .ok (.aload_n 0, 1) := by decide +kernel
theorem dX3_chooseList_48 : decode cX3_chooseList 48 = .ok (.getfield 28, 3) := by decide +kernel
theorem dX3_chooseList_51 : decode cX3_chooseList 51 = .ok (.invokevirtual 107, 3) := by decide +kernel
theorem dX3_chooseList_54 : decode cX3_chooseList 54 = .ok (.istore_n 3, 1) := by decide +kernel
theorem dX3_chooseList_55 : decode cX3_chooseList 55 = .ok (.aload_n 0, 1) := by decide +kernel
theorem dX3_chooseList_56 : decode cX3_chooseList 56 = .ok (.getfield 40, 3) := by decide +kernel
theorem dX3_chooseList_59 : decode cX3_chooseList 59 = .ok (.iload_n 3, 1) := by decide +kernel
theorem dX3_chooseList_60 : decode cX3_chooseList 60 = .ok (.aaload, 1) := by decide +kernel
theorem dX3_chooseList_61 : decode cX3_chooseList 61 = .ok (.getfield 110, 3) := by decide +kernel
theorem dX3_chooseList_64 : decode cX3_chooseList 64 = .ok (.aload_n 0, 1) := by decide +kernel
theorem dX3_chooseList_65 : decode cX3_chooseList 65 = .ok (.getfield 40, 3) := by decide +kernel
theorem dX3_chooseList_68 : decode cX3_chooseList 68 = .ok (.iload_n 2, 1) := by decide +kernel
theorem dX3_chooseList_69 : decode cX3_chooseList 69 = .ok (.aaload, 1) := by decide +kernel
theorem dX3_chooseList_70 : decode cX3_chooseList 70 = .ok (.getfield 110, 3) := by decide +kernel
theorem dX3_chooseList_73 : decode cX3_chooseList 73 = .ok (.if_icmp .ge 7, 3) := by decide +kernel
theorem dX3_chooseList_76 : decode cX3_chooseList 76 = .ok (.iload_n 3, 1) := by decide +kernel
theorem dX3_chooseList_77 : decode cX3_chooseList 77 = .ok (.goto 4, 3) := by decide +kernel
theorem dX3_chooseList_80 : decode cX3_chooseList 80 = .ok (.iload_n 2, 1) := by decide +kernel
theorem dX3_chooseList_81 : decode cX3_chooseList 81 = .ok (.ireturn, 1) := by decide +kernel
set_option maxRecDepth 20000 in
theorem ggX3_leaveIdleList_X0_removeIdle : GoodIn wsX3_leaveIdleList wsX0_removeIdle := goodIn_r _ [8, 9, 10, 28, 29, 30, 31, 32] (by decide +kernel) (by decide +kernel)
set_option maxRecDepth 20000 in
theorem gX3_leaveIdleList_X0_removeIdle : GoodIn wsX3_leaveIdleList (wsV RX3 113 RX0 yX0_removeIdle wsX0_removeIdle) := goodIn_app (goodIn_of _ (by decide +kernel)) ggX3_leaveIdleList_X0_removeIdle
theorem dX3_leaveIdleList_0 : decode cX3_leaveIdleList 0 = .ok (.aload_n 0, 1) := by decide +kernel
theorem dX3_leaveIdleList_1 : decode cX3_leaveIdleList 1 = .ok (.getfield 33, 3) := by decide +kernel
theorem dX3_leaveIdleList_4 : decode cX3_leaveIdleList 4 = .ok (.iload_n 1, 1) := by decide +kernel
theorem dX3_leaveIdleList_5 : decode cX3_leaveIdleList 5 = .ok (.aaload, 1) := by decide +kernel
theorem dX3_leaveIdleList_6 : decode cX3_leaveIdleList 6 = .ok (.getfield 104, 3) := by decide +kernel
theorem dX3_leaveIdleList_9 : decode cX3_leaveIdleList 9 = .ok (.istore_n 2, 1) := by decide +kernel
theorem dX3_leaveIdleList_10 : decode cX3_leaveIdleList 10 = .ok (.iload_n 2, 1) := by decide +kernel
theorem dX3_leaveIdleList_11 : decode cX3_leaveIdleList 11 = .ok (.iconst (-1), 1) := by decide +kernel
theorem dX3_leaveIdleList_12 : decode cX3_leaveIdleList 12 = .ok (.if_icmp .eq 23, 3) := by decide +kernel
theorem dX3_leaveIdleList_15 : decode cX3_leaveIdleList 15 = .ok (.aload_n 0, 1) := by decide +kernel
theorem dX3_leaveIdleList_16 : decode cX3_leaveIdleList 16 = .ok (.getfield 40, 3) := by decide +kernel
theorem dX3_leaveIdleList_19 : decode cX3_leaveIdleList 19 = .ok (.iload_n 2, 1) := by decide +kernel
theorem dX3_leaveIdleList_20 : decode cX3_leaveIdleList 20 = .ok (.aaload, 1) := by decide +kernel
theorem dX3_leaveIdleList_21 : decode cX3_leaveIdleList 21 = .ok (.iload_n 1, 1) := by decide +kernel
theorem dX3_leaveIdleList_22 : decode cX3_leaveIdleList 22 = .ok (.invokevirtual 113, 3) := by decide +kernel
theorem dX3_leaveIdleList_25 : decode cX3_leaveIdleList 25 = .ok (.aload_n 0, 1) := by decide +kernel
theorem dX3_leaveIdleList_26 : decode cX3_leaveIdleList 26 = .ok (.getfield 33, 3) := by decide +kernel
theorem dX3_leaveIdleList_29 : decode cX3_leaveIdleList 29 = .ok (.iload_n 1, 1) := by decide +kernel
theorem dX3_leaveIdleList_30 : decode cX3_leaveIdleList 30 = .ok (.aaload, 1) := by decide +kernel
theorem dX3_leaveIdleList_31 : decode cX3_leaveIdleList 31 = .ok (.iconst (-1), 1) := by decide +kernel
theorem dX3_leaveIdleList_32 : decode cX3_leaveIdleList 32 = .ok (.putfield 104, 3) := by decide +kernel
theorem dX3_leaveIdleList_35 : decode cX3_leaveIdleList 35 = .ok (.return_, 1) := by decide +kernel
theorem dX3_collectCandidates_0 : decode cX3_collectCandidates 0 = .ok (.aload_n 0, 1) := by decide +kernel
theorem dX3_collectCandidates_1 : decode cX3_collectCandidates 1 = .ok (.iconst 0, 1) := by decide +kernel
theorem dX3_collectCandidates_2 : decode cX3_collectCandidates 2 = .ok (.putfield 52, 3) := by decide +kernel
theorem dX3_collectCandidates_5 : decode cX3_collectCandidates 5 = .ok (.iconst 0, 1) := by decide +kernel
theorem dX3_collectCandidates_6 : decode cX3_collectCandidates 6 = .ok (.istore_n 1, 1) := by decide +kernel
theorem dX3_collectCandidates_7 : decode cX3_collectCandidates 7 = .ok (.iload_n 1, 1) := by decide +kernel
theorem dX3_collectCandidates_8 : decode cX3_collectCandidates 8 = .ok (.aload_n 0, 1) := by decide +kernel
theorem dX3_collectCandidates_9 : decode cX3_collectCandidates 9 = .ok (.getfield 25, 3) := by decide +kernel
theorem dX3_collectCandidates_12 : decode cX3_collectCandidates 12 = .ok (.if_icmp .ge 41, 3) := by decide +kernel
theorem dX3_collectCandidates_15 : decode cX3_collectCandidates 15 = .ok (.aload_n 0, 1) := by decide +kernel
theorem dX3_collectCandidates_16 : decode cX3_collectCandidates 16 = .ok (.getfield 33, 3) := by decide +kernel
theorem dX3_collectCandidates_19 : decode cX3_collectCandidates 19 = .ok (.iload_n 1, 1) := by decide +kernel
theorem dX3_collectCandidates_20 : decode cX3_collectCandidates 20 = .ok (.aaload, 1) := by decide +kernel
theorem dX3_collectCandidates_21 : decode cX3_collectCandidates 21 = .ok (.getfield 79, 3) := by decide +kernel
theorem dX3_collectCandidates_24 : decode cX3_collectCandidates 24 = .ok (.ifCond .eq 23, 3) := by decide +kernel
theorem dX3_collectCandidates_27 : decode cX3_collectCandidates 27 = .ok (.aload_n 0, 1) := by decide +kernel
theorem dX3_collectCandidates_28 : decode cX3_collectCandidates 28 = .ok (.getfield 55, 3) := by decide +kernel
theorem dX3_collectCandidates_31 : decode cX3_collectCandidates 31 = .ok (.aload_n 0, 1) := by decide +kernel
theorem dX3_collectCandidates_32 : decode cX3_collectCandidates 32 = .ok (.getfield 52, 3) := by decide +kernel
theorem dX3_collectCandidates_35 : decode cX3_collectCandidates 35 = .ok (.iload_n 1, 1) := by decide +kernel
theorem dX3_collectCandidates_36 : decode cX3_collectCandidates 36 = .ok (.iastore, 1) := by decide +kernel
theorem dX3_collectCandidates_37 : decode cX3_collectCandidates 37 = .ok (.aload_n 0, 1) := by decide +kernel
theorem dX3_collectCandidates_38 : decode cX3_collectCandidates 38 = .ok (.dup, 1) := by decide +kernel
theorem dX3_collectCandidates_39 : decode cX3_collectCandidates 39 = .ok (.getfield 52, 3) := by decide +kernel
theorem dX3_collectCandidates_42 : decode cX3_collectCandidates 42 = .ok (.iconst 1, 1) := by decide +kernel
theorem dX3_collectCandidates_43 : decode cX3_collectCandidates 43 = .ok (.iadd, 1) := by decide +kernel
theorem dX3_collectCandidates_44 : decode cX3_collectCandidates 44 = .ok (.putfield 52, 3) := by decide +kernel
theorem dX3_collectCandidates_47 : decode cX3_collectCandidates 47 = .ok (.iinc 1 1, 3) := by decide +kernel
theorem dX3_collectCandidates_50 : decode cX3_collectCandidates 50 = .ok (.goto (-43), 3) := by decide +kernel
theorem dX3_collectCandidates_53 : decode cX3_collectCandidates 53 = .ok (.return_, 1) := by decide +kernel
set_option maxRecDepth 20000 in
theorem ggX3_certainServer_X3_nextInTurn : GoodIn wsX3_certainServer wsX3_nextInTurn := goodIn_r _ [10, 11, 12, 22, 23, 24, 25, 26, 27, 28, 29, 30, 31, 32] (by decide +kernel) (by decide +kernel)
set_option maxRecDepth 20000 in
theorem gX3_certainServer_X3_nextInTurn : GoodIn wsX3_certainServer (wsV RX3 119 RX3 yX3_nextInTurn wsX3_nextInTurn) := goodIn_app (goodIn_of _ (by decide +kernel)) ggX3_certainServer_X3_nextInTurn
set_option maxRecDepth 20000 in
theorem ggX3_certainServer_X3_leastKnown : GoodIn wsX3_certainServer wsX3_leastKnown := goodIn_r _ [16, 12, 11, 22, 23, 24, 25, 26, 27, 28, 29, 30, 31, 32] (by decide +kernel) (by decide +kernel)
set_option maxRecDepth 20000 in
theorem gX3_certainServer_X3_leastKnown : GoodIn wsX3_certainServer (wsV RX3 128 RX3 yX3_leastKnown wsX3_leastKnown) := goodIn_app (goodIn_of _ (by decide +kernel)) ggX3_certainServer_X3_leastKnown
theorem dX3_certainServer_0 : decode cX3_certainServer 0 = .ok (.aload_n 1, 1) := by decide +kernel
theorem dX3_certainServer_1 : decode cX3_certainServer 1 = .ok (.getfield 76, 3) := by decide +kernel
theorem dX3_certainServer_4 : decode cX3_certainServer 4 = .ok (.tableswitch 68 1 4 #[32, 68, 41, 59], 32) := by decide +kernel
theorem dX3_certainServer_36 : decode cX3_certainServer 36 = .ok (.aload_n 0, 1) := by decide +kernel
theorem dX3_certainServer_37 : decode cX3_certainServer 37 = .ok (.aload_n 1, 1) := by decide +kernel
theorem dX3_certainServer_38 : decode cX3_certainServer 38 = .ok (.getfield 116, 3) := by decide +kernel
theorem dX3_certainServer_41 : decode cX3_certainServer 41 = .ok (.invokevirtual 119, 3) := by decide +kernel
theorem dX3_certainServer_44 : decode cX3_certainServer 44 = .ok (.ireturn, 1) := by decide +kernel
theorem dX3_certainServer_45 : decode cX3_certainServer 45 = .ok (.aload_n 1, 1) := by decide +kernel
theorem dX3_certainServer_46 : decode cX3_certainServer 46 = .ok (.getfield 110, 3) := by decide +kernel
theorem dX3_certainServer_49 : decode cX3_certainServer 49 = .ok (.ifCond .le 12, 3) := by decide +kernel
theorem dX3_certainServer_52 : decode cX3_certainServer 52 = .ok (.aload_n 1, 1) := by decide +kernel
theorem dX3_certainServer_53 : decode cX3_certainServer 53 = .ok (.getfield 122, 3) := by decide +kernel
theorem dX3_certainServer_56 : decode cX3_certainServer 56 = .ok (.iconst 0, 1) := by decide +kernel
theorem dX3_certainServer_57 : decode cX3_certainServer 57 = .ok (.iaload, 1) := by decide +kernel
theorem dX3_certainServer_58 : decode cX3_certainServer 58 = .ok (.goto 4, 3) := by decide +kernel
theorem dX3_certainServer_61 : decode cX3_certainServer 61 = .ok (.iconst (-1), 1) := by decide +kernel
theorem dX3_certainServer_62 : decode cX3_certainServer 62 = .ok (.ireturn, 1) := by decide +kernel
theorem dX3_certainServer_63 : decode cX3_certainServer 63 = .ok (.aload_n 0, 1) := by decide +kernel
theorem dX3_certainServer_64 : decode cX3_certainServer 64 = .ok (.aload_n 1, 1) := by decide +kernel
theorem dX3_certainServer_65 : decode cX3_certainServer 65 = .ok (.getfield 125, 3) := by decide +kernel
theorem dX3_certainServer_68 : decode cX3_certainServer 68 = .ok (.invokevirtual 128, 3) := by decide +kernel
theorem dX3_certainServer_71 : decode cX3_certainServer 71 = .ok (.ireturn, 1) := by decide +kernel
theorem dX3_certainServer_72 : decode cX3_certainServer 72 = .ok (.iconst (-1), 1) := by decide +kernel
theorem dX3_certainServer_73 : decode cX3_certainServer 73 = .ok (.ireturn, 1) := by decide +kernel
theorem dX3_nextInTurn_0 : decode cX3_nextInTurn 0 = .ok (.iconst 0, 1) := by decide +kernel
theorem dX3_nextInTurn_1 : decode cX3_nextInTurn 1 = .ok (.istore_n 2, 1) := by decide +kernel
theorem dX3_nextInTurn_2 : decode cX3_nextInTurn 2 = .ok (.iload_n 2, 1) := by decide +kernel
theorem dX3_nextInTurn_3 : decode cX3_nextInTurn 3 = .ok (.aload_n 0, 1) := by decide +kernel
theorem dX3_nextInTurn_4 : decode cX3_nextInTurn 4 = .ok (.getfield 52, 3) := by decide +kernel
theorem dX3_nextInTurn_7 : decode cX3_nextInTurn 7 = .ok (.if_icmp .ge 26, 3) := by decide +kernel
theorem dX3_nextInTurn_10 : decode cX3_nextInTurn 10 = .ok (.aload_n 0, 1) := by decide +kernel
theorem dX3_nextInTurn_11 : decode cX3_nextInTurn 11 = .ok (.getfield 55, 3) := by decide +kernel
theorem dX3_nextInTurn_14 : decode cX3_nextInTurn 14 = .ok (.iload_n 2, 1) := by decide +kernel
theorem dX3_nextInTurn_15 : decode cX3_nextInTurn 15 = .ok (.iaload, 1) := by decide +kernel
theorem dX3_nextInTurn_16 : decode cX3_nextInTurn 16 = .ok (.iload_n 1, 1) := by decide +kernel
theorem dX3_nextInTurn_17 : decode cX3_nextInTurn 17 = .ok (.if_icmp .lt 10, 3) := by decide +kernel
theorem dX3_nextInTurn_20 : decode cX3_nextInTurn 20 = .ok (.aload_n 0, 1) := by decide +kernel
theorem dX3_nextInTurn_21 : decode cX3_nextInTurn 21 = .ok (.getfield 55, 3) := by decide +kernel
theorem dX3_nextInTurn_24 : decode cX3_nextInTurn 24 = .ok (.iload_n 2, 1) := by decide +kernel
theorem dX3_nextInTurn_25 : decode cX3_nextInTurn 25 = .ok (.iaload, 1) := by decide +kernel
theorem dX3_nextInTurn_26 : decode cX3_nextInTurn 26 = .ok (.ireturn, 1) := by decide +kernel
theorem dX3_nextInTurn_27 : decode cX3_nextInTurn 27 = .ok (.iinc 2 1, 3) := by decide +kernel
theorem dX3_nextInTurn_30 : decode cX3_nextInTurn 30 = .ok (.goto (-28), 3) := by decide +kernel
theorem dX3_nextInTurn_33 : decode cX3_nextInTurn 33 = .ok (.aload_n 0, 1) := by decide +kernel
theorem dX3_nextInTurn_34 : decode cX3_nextInTurn 34 = .ok (.getfield 55, 3) := by decide +kernel
theorem dX3_nextInTurn_37 : decode cX3_nextInTurn 37 = .ok (.iconst 0, 1) := by decide +kernel
theorem dX3_nextInTurn_38 : decode cX3_nextInTurn 38 = .ok (.iaload, 1) := by decide +kernel
theorem dX3_nextInTurn_39 : decode cX3_nextInTurn 39 = .ok (.ireturn, 1) := by decide +kernel
theorem dX3_leastKnown_0 : decode cX3_leastKnown 0 = .ok (.aload_n 0, 1) := by decide +kernel
theorem dX3_leastKnown_1 : decode cX3_leastKnown 1 = .ok (.getfield 55, 3) := by decide +kernel
theorem dX3_leastKnown_4 : decode cX3_leastKnown 4 = .ok (.iconst 0, 1) := by decide +kernel
theorem dX3_leastKnown_5 : decode cX3_leastKnown 5 = .ok (.iaload, 1) := by decide +kernel
theorem dX3_leastKnown_6 : decode cX3_leastKnown 6 = .ok (.istore_n 2, 1) := by decide +kernel
theorem dX3_leastKnown_7 : decode cX3_leastKnown 7 = .ok (.iconst 1, 1) := by decide +kernel
theorem dX3_leastKnown_8 : decode cX3_leastKnown 8 = .ok (.istore_n 3, 1) := by decide +kernel
theorem dX3_leastKnown_9 : decode cX3_leastKnown 9 = .ok (.iload_n 3, 1) := by decide +kernel
theorem dX3_leastKnown_10 : decode cX3_leastKnown 10 = .ok (.aload_n 0, 1) := by decide +kernel
theorem dX3_leastKnown_11 : decode cX3_leastKnown 11 = .ok (.getfield 52, 3) := by decide +kernel
theorem dX3_leastKnown_14 : decode cX3_leastKnown 14 = .ok (.if_icmp .ge 30, 3) := by decide +kernel
theorem dX3_leastKnown_17 : decode cX3_leastKnown 17 = .ok (.aload_n 1, 1) := by decide +kernel
theorem dX3_leastKnown_18 : decode cX3_leastKnown 18 = .ok (.aload_n 0, 1) := by decide +kernel
theorem dX3_leastKnown_19 : decode cX3_leastKnown 19 = .ok (.getfield 55, 3) := by decide +kernel
theorem dX3_leastKnown_22 : decode cX3_leastKnown 22 = .ok (.iload_n 3, 1) := by decide +kernel
theorem dX3_leastKnown_23 : decode cX3_leastKnown 23 = .ok (.iaload, 1) := by decide +kernel
theorem dX3_leastKnown_24 : decode cX3_leastKnown 24 = .ok (.iaload, 1) := by decide +kernel
theorem dX3_leastKnown_25 : decode cX3_leastKnown 25 = .ok (.aload_n 1, 1) := by decide +kernel
theorem dX3_leastKnown_26 : decode cX3_leastKnown 26 = .ok (.iload_n 2, 1) := by decide +kernel
theorem dX3_leastKnown_27 : decode cX3_leastKnown 27 = .ok (.iaload, 1) := by decide +kernel
theorem dX3_leastKnown_28 : decode cX3_leastKnown 28 = .ok (.if_icmp .ge 10, 3) := by decide +kernel
theorem dX3_leastKnown_31 : decode cX3_leastKnown 31 = .ok (.aload_n 0, 1) := by decide +kernel
theorem dX3_leastKnown_32 : decode cX3_leastKnown 32 = .ok (.getfield 55, 3) := by decide +kernel
theorem dX3_leastKnown_35 : decode cX3_leastKnown 35 = .ok (.iload_n 3, 1) := by decide +kernel
theorem dX3_leastKnown_36 : decode cX3_leastKnown 36 = .ok (.iaload, 1) := by decide +kernel
theorem dX3_leastKnown_37 : decode cX3_leastKnown 37 = .ok (.istore_n 2, 1) := by decide +kernel
theorem dX3_leastKnown_38 : decode cX3_leastKnown 38 = .ok (.iinc 3 1, 3) := by decide +kernel
theorem dX3_leastKnown_41 : decode cX3_leastKnown 41 = .ok (.goto (-32), 3) := by decide +kernel
theorem dX3_leastKnown_44 : decode cX3_leastKnown 44 = .ok (.iload_n 2, 1) := by decide +kernel
theorem dX3_leastKnown_45 : decode cX3_leastKnown 45 = .ok (.ireturn, 1) := by decide +kernel
set_option maxRecDepth 20000 in
theorem ggX3_drawServer_X3_draw : GoodIn wsX3_drawServer wsX3_draw := goodIn_r _ [9, 10, 11, 12, 13, 14, 15, 16, 17, 18, 19, 20, 21, 22, 23, 24, 25] (by decide +kernel) (by decide +kernel)
set_option maxRecDepth 20000 in
theorem gX3_drawServer_X3_draw : GoodIn wsX3_drawServer (wsV RX3 107 RX3 yX3_draw wsX3_draw) := goodIn_app (goodIn_of _ (by decide +kernel)) ggX3_drawServer_X3_draw
theorem dX3_drawServer_0 : decode cX3_drawServer 0 = .ok (.aload_n 0, 1) := by decide +kernel
theorem dX3_drawServer_1 : decode cX3_drawServer 1 = .ok (.getfield 55, 3) := by decide +kernel
theorem dX3_drawServer_4 : decode cX3_drawServer 4 = .ok (.aload_n 0, 1) := by decide +kernel
theorem dX3_drawServer_5 : decode cX3_drawServer 5 = .ok (.aload_n 0, 1) := by decide +kernel
theorem dX3_drawServer_6 : decode cX3_drawServer 6 = .ok (.getfield 52, 3) := by decide +kernel
theorem dX3_drawServer_9 : decode cX3_drawServer 9 = .ok (.invokevirtual 107, 3) := by decide +kernel
theorem dX3_drawServer_12 : decode cX3_drawServer 12 = .ok (.iaload, 1) := by decide +kernel
theorem dX3_drawServer_13 : decode cX3_drawServer 13 = .ok (.istore_n 2, 1) := by decide +kernel
theorem dX3_drawServer_14 : decode cX3_drawServer 14 = .ok (.iload_n 1, 1) := by decide +kernel
theorem dX3_drawServer_15 : decode cX3_drawServer 15 = .ok (.iconst 2, 1) := by decide +kernel
theorem dX3_drawServer_16 : decode cX3_drawServer 16 = .ok (.if_icmp .eq 5, 3) := by decide +kernel
theorem dX3_drawServer_19 : decode cX3_drawServer 19 = .ok (.iload_n 2, 1) := by decide +kernel
theorem dX3_drawServer_20 : decode cX3_drawServer 20 = .ok (.ireturn, 1) := by decide +kernel
theorem dX3_drawServer_21 : decode cX3_drawServer 21 = .ok (.aload_n 0, 1) := by decide +kernel
theorem dX3_drawServer_22 : decode cX3_drawServer 22 = .ok (.getfield 55, 3) := by decide +kernel
theorem dX3_drawServer_25 : decode cX3_drawServer 25 = .ok (.aload_n 0, 1) := by decide +kernel
theorem dX3_drawServer_26 : decode cX3_drawServer 26 = .ok (.aload_n 0, 1) := by decide +kernel
theorem dX3_drawServer_27 : decode cX3_drawServer 27 = .ok (.getfield 52, 3) := by decide +kernel
theorem dX3_drawServer_30 : decode cX3_drawServer 30 = .ok (.invokevirtual 107, 3) := by decide +kernel
theorem dX3_drawServer_33 : decode cX3_drawServer 33 = .ok (.iaload, 1) := by decide +kernel
theorem dX3_drawServer_34 : decode cX3_drawServer 34 = .ok (.istore_n 3, 1) := by decide +kernel
theorem dX3_drawServer_35 : decode cX3_drawServer 35 = .ok (.aload_n 0, 1) := by decide +kernel
theorem dX3_drawServer_36 : decode cX3_drawServer 36 = .ok (.getfield 33, 3) := by decide +kernel
theorem dX3_drawServer_39 : decode cX3_drawServer 39 = .ok (.iload_n 3, 1) := by decide +kernel
theorem dX3_drawServer_40 : decode cX3_drawServer 40 = .ok (.aaload, 1) := by decide +kernel
theorem dX3_drawServer_41 : decode cX3_drawServer 41 = .ok (.getfield 86, 3) := by decide +kernel
theorem dX3_drawServer_44 : decode cX3_drawServer 44 = .ok (.aload_n 0, 1) := by decide +kernel
theorem dX3_drawServer_45 : decode cX3_drawServer 45 = .ok (.getfield 33, 3) := by decide +kernel
theorem dX3_drawServer_48 : decode cX3_drawServer 48 = .ok (.iload_n 2, 1) := by decide +kernel
theorem dX3_drawServer_49 : decode cX3_drawServer 49 = .ok (.aaload, 1) := by decide +kernel
theorem dX3_drawServer_50 : decode cX3_drawServer 50 = .ok (.getfield 86, 3) := by decide +kernel
theorem dX3_drawServer_53 : decode cX3_drawServer 53 = .ok (.if_icmp .ge 7, 3) := by decide +kernel
theorem dX3_drawServer_56 : decode cX3_drawServer 56 = .ok (.iload_n 3, 1) := by decide +kernel
theorem dX3_drawServer_57 : decode cX3_drawServer 57 = .ok (.goto 4, 3) := by decide +kernel
theorem dX3_drawServer_60 : decode cX3_drawServer 60 = .ok (.iload_n 2, 1) := by decide +kernel
theorem dX3_drawServer_61 : decode cX3_drawServer 61 = .ok (.ireturn, 1) := by decide +kernel
set_option maxRecDepth 20000 in
theorem ggX3_takeServer_X3_certainServer : GoodIn wsX3_takeServer wsX3_certainServer := goodIn_r _ [8, 1, 2, 9, 10, 3, 11, 12, 13, 7, 14, 15, 16, 17, 18, 19, 20, 36, 37, 38, 39, 40, 41, 42, 43, 44, 45, 46, 47, 48, 49, 50, 51] (by decide +kernel) (by decide +kernel)
set_option maxRecDepth 20000 in
theorem gX3_takeServer_X3_certainServer : GoodIn wsX3_takeServer (wsV RX3 132 RX3 yX3_certainServer wsX3_certainServer) := goodIn_app (goodIn_of _ (by decide +kernel)) ggX3_takeServer_X3_certainServer
set_option maxRecDepth 20000 in
theorem ggX3_takeServer_X3_drawServer : GoodIn wsX3_takeServer wsX3_drawServer := goodIn_r _ [24, 16, 15, 25, 26, 27, 28, 29, 7, 30, 31, 32, 33, 34, 35, 41, 42, 43, 44, 45, 46, 47, 48, 49, 50, 51, 52, 53, 54, 55, 56, 57] (by decide +kernel) (by decide +kernel)
set_option maxRecDepth 20000 in
theorem gX3_takeServer_X3_drawServer : GoodIn wsX3_takeServer (wsV RX3 136 RX3 yX3_drawServer wsX3_drawServer) := goodIn_app (goodIn_of _ (by decide +kernel)) ggX3_takeServer_X3_drawServer
theorem dX3_takeServer_0 : decode cX3_takeServer 0 = .ok (.aload_n 0, 1) := by decide +kernel
theorem dX3_takeServer_1 : decode cX3_takeServer 1 = .ok (.aload_n 1, 1) := by decide +kernel
theorem dX3_takeServer_2 : decode cX3_takeServer 2 = .ok (.invokevirtual 132, 3) := by decide +kernel
theorem dX3_takeServer_5 : decode cX3_takeServer 5 = .ok (.istore_n 2, 1) := by decide +kernel
theorem dX3_takeServer_6 : decode cX3_takeServer 6 = .ok (.iload_n 2, 1) := by decide +kernel
theorem dX3_takeServer_7 : decode cX3_takeServer 7 = .ok (.iconst (-1), 1) := by decide +kernel
theorem dX3_takeServer_8 : decode cX3_takeServer 8 = .ok (.if_icmp .ne 14, 3) := by decide +kernel
theorem dX3_takeServer_11 : decode cX3_takeServer 11 = .ok (.aload_n 0, 1) := by decide +kernel
theorem dX3_takeServer_12 : decode cX3_takeServer 12 = .ok (.aload_n 1, 1) := by decide +kernel
theorem dX3_takeServer_13 : decode cX3_takeServer 13 = .ok (.getfield 76, 3) := by decide +kernel
theorem dX3_takeServer_16 : decode cX3_takeServer 16 = .ok (.invokevirtual 136, 3) := by decide +kernel
theorem dX3_takeServer_19 : decode cX3_takeServer 19 = .ok (.goto 4, 3) := by decide +kernel
theorem dX3_takeServer_22 : decode cX3_takeServer 22 = .ok (.iload_n 2, 1) := by decide +kernel
theorem dX3_takeServer_23 : decode cX3_takeServer 23 = .ok (.istore_n 3, 1) := by decide +kernel
theorem dX3_takeServer_24 : decode cX3_takeServer 24 = .ok (.aload_n 1, 1) := by decide +kernel
theorem dX3_takeServer_25 : decode cX3_takeServer 25 = .ok (.getfield 76, 3) := by decide +kernel
theorem dX3_takeServer_28 : decode cX3_takeServer 28 = .ok (.iconst 1, 1) := by decide +kernel
theorem dX3_takeServer_29 : decode cX3_takeServer 29 = .ok (.if_icmp .ne 13, 3) := by decide +kernel
theorem dX3_takeServer_32 : decode cX3_takeServer 32 = .ok (.aload_n 1, 1) := by decide +kernel
theorem dX3_takeServer_33 : decode cX3_takeServer 33 = .ok (.iload_n 3, 1) := by decide +kernel
theorem dX3_takeServer_34 : decode cX3_takeServer 34 = .ok (.iconst 1, 1) := by decide +kernel
theorem dX3_takeServer_35 : decode cX3_takeServer 35 = .ok (.iadd, 1) := by decide +kernel
theorem dX3_takeServer_36 : decode cX3_takeServer 36 = .ok (.putfield 116, 3) := by decide +kernel
theorem dX3_takeServer_39 : decode cX3_takeServer 39 = .ok (.goto 21, 3) := by decide +kernel
theorem dX3_takeServer_42 : decode cX3_takeServer 42 = .ok (.aload_n 1, 1) := by decide +kernel
theorem dX3_takeServer_43 : decode cX3_takeServer 43 = .ok (.getfield 76, 3) := by decide +kernel
theorem dX3_takeServer_46 : decode cX3_takeServer 46 = .ok (.iconst 4, 1) := by decide +kernel
theorem dX3_takeServer_47 : decode cX3_takeServer 47 = .ok (.if_icmp .ne 13, 3) := by decide +kernel
theorem dX3_takeServer_50 : decode cX3_takeServer 50 = .ok (.aload_n 1, 1) := by decide +kernel
theorem dX3_takeServer_51 : decode cX3_takeServer 51 = .ok (.getfield 125, 3) := by decide +kernel
theorem dX3_takeServer_54 : decode cX3_takeServer 54 = .ok (.iload_n 3, 1) := by decide +kernel
theorem dX3_takeServer_55 : decode cX3_takeServer 55 = .ok (.dup2, 1) := by decide +kernel
theorem dX3_takeServer_56 : decode cX3_takeServer 56 = .ok (.iaload, 1) := by decide +kernel
theorem dX3_takeServer_57 : decode cX3_takeServer 57 = .ok (.iconst 1, 1) := by decide +kernel
theorem dX3_takeServer_58 : decode cX3_takeServer 58 = .ok (.iadd, 1) := by decide +kernel
theorem dX3_takeServer_59 : decode cX3_takeServer 59 = .ok (.iastore, 1) := by decide +kernel
theorem dX3_takeServer_60 : decode cX3_takeServer 60 = .ok (.iload_n 3, 1) := by decide +kernel
theorem dX3_takeServer_61 : decode cX3_takeServer 61 = .ok (.ireturn, 1) := by decide +kernel
set_option maxRecDepth 20000 in
theorem ggX3_sumOverOutcomes_X3_certainServer : GoodIn wsX3_sumOverOutcomes wsX3_certainServer := goodIn_r _ [9, 4, 10, 11, 12, 13, 14, 15, 16, 8, 17, 18, 19, 20, 21, 22, 23, 53, 54, 55, 56, 57, 36, 37, 38, 39, 40, 41, 42, 43, 44, 45, 46] (by decide +kernel) (by decide +kernel)
set_option maxRecDepth 20000 in
theorem gX3_sumOverOutcomes_X3_certainServer : GoodIn wsX3_sumOverOutcomes (wsV RX3 132 RX3 yX3_certainServer wsX3_certainServer) := goodIn_app (goodIn_of _ (by decide +kernel)) ggX3_sumOverOutcomes_X3_certainServer
set_option maxRecDepth 20000 in
theorem ggX3_sumOverOutcomes_X3_sumOverPairs : GoodIn wsX3_sumOverOutcomes wsX3_sumOverPairs := goodIn_r _ [27, 18, 2, 19, 3, 28, 29, 30, 31, 36, 37, 38, 39, 40, 41, 42, 43, 44, 45, 46, 47, 48, 49, 50, 51, 52] (by decide +kernel) (by decide +kernel)
set_option maxRecDepth 20000 in
theorem gX3_sumOverOutcomes_X3_sumOverPairs : GoodIn wsX3_sumOverOutcomes (wsV RX3 139 RX3 yX3_sumOverPairs wsX3_sumOverPairs) := goodIn_app (goodIn_of _ (by decide +kernel)) ggX3_sumOverOutcomes_X3_sumOverPairs
set_option maxRecDepth 20000 in
theorem ggX3_sumOverOutcomes_X3_sumOverCandidates : GoodIn wsX3_sumOverOutcomes wsX3_sumOverCandidates := goodIn_r _ [35, 18, 2, 19, 3, 36, 37, 38, 39, 40, 41, 42, 43, 44, 45, 46, 47, 48, 49, 50, 51, 52] (by decide +kernel) (by decide +kernel)
set_option maxRecDepth 20000 in
theorem gX3_sumOverOutcomes_X3_sumOverCandidates : GoodIn wsX3_sumOverOutcomes (wsV RX3 143 RX3 yX3_sumOverCandidates wsX3_sumOverCandidates) := goodIn_app (goodIn_of _ (by decide +kernel)) ggX3_sumOverOutcomes_X3_sumOverCandidates
theorem dX3_sumOverOutcomes_0 : decode cX3_sumOverOutcomes 0 = .ok (.aload_n 0, 1) := by decide +kernel
theorem dX3_sumOverOutcomes_1 : decode cX3_sumOverOutcomes 1 = .ok (.getfield 40, 3) := by decide +kernel
theorem dX3_sumOverOutcomes_4 : decode cX3_sumOverOutcomes 4 = .ok (.iload_n 1, 1) := by decide +kernel
theorem dX3_sumOverOutcomes_5 : decode cX3_sumOverOutcomes 5 = .ok (.aaload, 1) := by decide +kernel
theorem dX3_sumOverOutcomes_6 : decode cX3_sumOverOutcomes 6 = .ok (.astore_n 2, 1) := by decide +kernel
theorem dX3_sumOverOutcomes_7 : decode cX3_sumOverOutcomes 7 = .ok (.aload_n 0, 1) := by decide +kernel
theorem dX3_sumOverOutcomes_8 : decode cX3_sumOverOutcomes 8 = .ok (.aload_n 2, 1) := by decide +kernel
theorem dX3_sumOverOutcomes_9 : decode cX3_sumOverOutcomes 9 = .ok (.invokevirtual 132, 3) := by decide +kernel
theorem dX3_sumOverOutcomes_12 : decode cX3_sumOverOutcomes 12 = .ok (.istore_n 3, 1) := by decide +kernel
theorem dX3_sumOverOutcomes_13 : decode cX3_sumOverOutcomes 13 = .ok (.iload_n 3, 1) := by decide +kernel
theorem dX3_sumOverOutcomes_14 : decode cX3_sumOverOutcomes 14 = .ok (.iconst (-1), 1) := by decide +kernel
theorem dX3_sumOverOutcomes_15 : decode cX3_sumOverOutcomes 15 = .ok (.if_icmp .eq 13, 3) := by decide +kernel
theorem dX3_sumOverOutcomes_18 : decode cX3_sumOverOutcomes 18 = .ok (.aload_n 0, 1) := by decide +kernel
theorem dX3_sumOverOutcomes_19 : decode cX3_sumOverOutcomes 19 = .ok (.getfield 33, 3) := by decide +kernel
theorem dX3_sumOverOutcomes_22 : decode cX3_sumOverOutcomes 22 = .ok (.iload_n 3, 1) := by decide +kernel
theorem dX3_sumOverOutcomes_23 : decode cX3_sumOverOutcomes 23 = .ok (.aaload, 1) := by decide +kernel
theorem dX3_sumOverOutcomes_24 : decode cX3_sumOverOutcomes 24 = .ok (.getfield 86, 3) := by decide +kernel
theorem dX3_sumOverOutcomes_27 : decode cX3_sumOverOutcomes 27 = .ok (.ireturn, 1) := by decide +kernel
theorem dX3_sumOverOutcomes_28 : decode cX3_sumOverOutcomes 28 = .ok (.aload_n 2, 1) := by decide +kernel
theorem dX3_sumOverOutcomes_29 : decode cX3_sumOverOutcomes 29 = .ok (.getfield 76, 3) := by decide +kernel
theorem dX3_sumOverOutcomes_32 : decode cX3_sumOverOutcomes 32 = .ok (.iconst 2, 1) := by decide +kernel
theorem dX3_sumOverOutcomes_33 : decode cX3_sumOverOutcomes 33 = .ok (.if_icmp .ne 10, 3) := by decide +kernel
theorem dX3_sumOverOutcomes_36 : decode cX3_sumOverOutcomes 36 = .ok (.aload_n 0, 1) := by decide +kernel
theorem dX3_sumOverOutcomes_37 : decode cX3_sumOverOutcomes 37 = .ok (.invokevirtual 139, 3) := by decide +kernel
theorem dX3_sumOverOutcomes_40 : decode cX3_sumOverOutcomes 40 = .ok (.goto 7, 3) := by decide +kernel
theorem dX3_sumOverOutcomes_43 : decode cX3_sumOverOutcomes 43 = .ok (.aload_n 0, 1) := by decide +kernel
theorem dX3_sumOverOutcomes_44 : decode cX3_sumOverOutcomes 44 = .ok (.invokevirtual 143, 3) := by decide +kernel
theorem dX3_sumOverOutcomes_47 : decode cX3_sumOverOutcomes 47 = .ok (.ireturn, 1) := by decide +kernel
set_option maxRecDepth 20000 in
theorem ggX3_countOutcomes_X3_certainServer : GoodIn wsX3_countOutcomes wsX3_certainServer := goodIn_r _ [8, 2, 9, 10, 11, 12, 13, 14, 15, 7, 16, 3, 17, 18, 19, 20, 21, 33, 34, 35, 36, 37, 22, 23, 24, 25, 26, 27, 28, 29, 30, 31, 32] (by decide +kernel) (by decide +kernel)
set_option maxRecDepth 20000 in
theorem gX3_countOutcomes_X3_certainServer : GoodIn wsX3_countOutcomes (wsV RX3 132 RX3 yX3_certainServer wsX3_certainServer) := goodIn_app (goodIn_of _ (by decide +kernel)) ggX3_countOutcomes_X3_certainServer
theorem dX3_countOutcomes_0 : decode cX3_countOutcomes 0 = .ok (.aload_n 0, 1) := by decide +kernel
theorem dX3_countOutcomes_1 : decode cX3_countOutcomes 1 = .ok (.getfield 40, 3) := by decide +kernel
theorem dX3_countOutcomes_4 : decode cX3_countOutcomes 4 = .ok (.iload_n 1, 1) := by decide +kernel
theorem dX3_countOutcomes_5 : decode cX3_countOutcomes 5 = .ok (.aaload, 1) := by decide +kernel
theorem dX3_countOutcomes_6 : decode cX3_countOutcomes 6 = .ok (.astore_n 2, 1) := by decide +kernel
theorem dX3_countOutcomes_7 : decode cX3_countOutcomes 7 = .ok (.aload_n 0, 1) := by decide +kernel
theorem dX3_countOutcomes_8 : decode cX3_countOutcomes 8 = .ok (.aload_n 2, 1) := by decide +kernel
theorem dX3_countOutcomes_9 : decode cX3_countOutcomes 9 = .ok (.invokevirtual 132, 3) := by decide +kernel
theorem dX3_countOutcomes_12 : decode cX3_countOutcomes 12 = .ok (.iconst (-1), 1) := by decide +kernel
theorem dX3_countOutcomes_13 : decode cX3_countOutcomes 13 = .ok (.if_icmp .eq 5, 3) := by decide +kernel
theorem dX3_countOutcomes_16 : decode cX3_countOutcomes 16 = .ok (.iconst 1, 1) := by decide +kernel
theorem dX3_countOutcomes_17 : decode cX3_countOutcomes 17 = .ok (.ireturn, 1) := by decide +kernel
theorem dX3_countOutcomes_18 : decode cX3_countOutcomes 18 = .ok (.aload_n 2, 1) := by decide +kernel
theorem dX3_countOutcomes_19 : decode cX3_countOutcomes 19 = .ok (.getfield 76, 3) := by decide +kernel
theorem dX3_countOutcomes_22 : decode cX3_countOutcomes 22 = .ok (.iconst 2, 1) := by decide +kernel
theorem dX3_countOutcomes_23 : decode cX3_countOutcomes 23 = .ok (.if_icmp .ne 15, 3) := by decide +kernel
theorem dX3_countOutcomes_26 : decode cX3_countOutcomes 26 = .ok (.aload_n 0, 1) := by decide +kernel
theorem dX3_countOutcomes_27 : decode cX3_countOutcomes 27 = .ok (.getfield 52, 3) := by decide +kernel
theorem dX3_countOutcomes_30 : decode cX3_countOutcomes 30 = .ok (.aload_n 0, 1) := by decide +kernel
theorem dX3_countOutcomes_31 : decode cX3_countOutcomes 31 = .ok (.getfield 52, 3) := by decide +kernel
theorem dX3_countOutcomes_34 : decode cX3_countOutcomes 34 = .ok (.imul, 1) := by decide +kernel
theorem dX3_countOutcomes_35 : decode cX3_countOutcomes 35 = .ok (.goto 7, 3) := by decide +kernel
theorem dX3_countOutcomes_38 : decode cX3_countOutcomes 38 = .ok (.aload_n 0, 1) := by decide +kernel
theorem dX3_countOutcomes_39 : decode cX3_countOutcomes 39 = .ok (.getfield 52, 3) := by decide +kernel
theorem dX3_countOutcomes_42 : decode cX3_countOutcomes 42 = .ok (.ireturn, 1) := by decide +kernel
theorem dX3_sumOverCandidates_0 : decode cX3_sumOverCandidates 0 = .ok (.iconst 0, 1) := by decide +kernel
theorem dX3_sumOverCandidates_1 : decode cX3_sumOverCandidates 1 = .ok (.istore_n 1, 1) := by decide +kernel
theorem dX3_sumOverCandidates_2 : decode cX3_sumOverCandidates 2 = .ok (.iconst 0, 1) := by decide +kernel
theorem dX3_sumOverCandidates_3 : decode cX3_sumOverCandidates 3 = .ok (.istore_n 2, 1) := by decide +kernel
theorem dX3_sumOverCandidates_4 : decode cX3_sumOverCandidates 4 = .ok (.iload_n 2, 1) := by decide +kernel
theorem dX3_sumOverCandidates_5 : decode cX3_sumOverCandidates 5 = .ok (.aload_n 0, 1) := by decide +kernel
theorem dX3_sumOverCandidates_6 : decode cX3_sumOverCandidates 6 = .ok (.getfield 52, 3) := by decide +kernel
theorem dX3_sumOverCandidates_9 : decode cX3_sumOverCandidates 9 = .ok (.if_icmp .ge 26, 3) := by decide +kernel
theorem dX3_sumOverCandidates_12 : decode cX3_sumOverCandidates 12 = .ok (.iload_n 1, 1) := by decide +kernel
theorem dX3_sumOverCandidates_13 : decode cX3_sumOverCandidates 13 = .ok (.aload_n 0, 1) := by decide +kernel
theorem dX3_sumOverCandidates_14 : decode cX3_sumOverCandidates 14 = .ok (.getfield 33, 3) := by decide +kernel
theorem dX3_sumOverCandidates_17 : decode cX3_sumOverCandidates 17 = .ok (.aload_n 0, 1) := by decide +kernel
theorem dX3_sumOverCandidates_18 : decode cX3_sumOverCandidates 18 = .ok (.getfield 55, 3) := by decide +kernel
theorem dX3_sumOverCandidates_21 : decode cX3_sumOverCandidates 21 = .ok (.iload_n 2, 1) := by decide +kernel
theorem dX3_sumOverCandidates_22 : decode cX3_sumOverCandidates 22 = .ok (.iaload, 1) := by decide +kernel
theorem dX3_sumOverCandidates_23 : decode cX3_sumOverCandidates 23 = .ok (.aaload, 1) := by decide +kernel
theorem dX3_sumOverCandidates_24 : decode cX3_sumOverCandidates 24 = .ok (.getfield 86, 3) := by decide +kernel
theorem dX3_sumOverCandidates_27 : decode cX3_sumOverCandidates 27 = .ok (.iadd, 1) := by decide +kernel
theorem dX3_sumOverCandidates_28 : decode cX3_sumOverCandidates 28 = .ok (.istore_n 1, 1) := by decide +kernel
theorem dX3_sumOverCandidates_29 : decode cX3_sumOverCandidates 29 = .ok (.iinc 2 1, 3) := by decide +kernel
theorem dX3_sumOverCandidates_32 : decode cX3_sumOverCandidates 32 = .ok (.goto (-28), 3) := by decide +kernel
theorem dX3_sumOverCandidates_35 : decode cX3_sumOverCandidates 35 = .ok (.iload_n 1, 1) := by decide +kernel
theorem dX3_sumOverCandidates_36 : decode cX3_sumOverCandidates 36 = .ok (.ireturn, 1) := by decide +kernel
theorem dX3_sumOverPairs_0 : decode cX3_sumOverPairs 0 = .ok (.iconst 0, 1) := by decide +kernel
theorem dX3_sumOverPairs_1 : decode cX3_sumOverPairs 1 = .ok (.istore_n 1, 1) := by decide +kernel
theorem dX3_sumOverPairs_2 : decode cX3_sumOverPairs 2 = .ok (.iconst 0, 1) := by decide +kernel
theorem dX3_sumOverPairs_3 : decode cX3_sumOverPairs 3 = .ok (.istore_n 2, 1) := by decide +kernel
theorem dX3_sumOverPairs_4 : decode cX3_sumOverPairs 4 = .ok (.iload_n 2, 1) := by decide +kernel
theorem dX3_sumOverPairs_5 : decode cX3_sumOverPairs 5 = .ok (.aload_n 0, 1) := by decide +kernel
theorem dX3_sumOverPairs_6 : decode cX3_sumOverPairs 6 = .ok (.getfield 52, 3) := by decide +kernel
theorem dX3_sumOverPairs_9 : decode cX3_sumOverPairs 9 = .ok (.if_icmp .ge 64, 3) := by decide +kernel
theorem dX3_sumOverPairs_12 : decode cX3_sumOverPairs 12 = .ok (.aload_n 0, 1) := by decide +kernel
theorem dX3_sumOverPairs_13 : decode cX3_sumOverPairs 13 = .ok (.getfield 33, 3) := by decide +kernel
theorem dX3_sumOverPairs_16 : decode cX3_sumOverPairs 16 = .ok (.aload_n 0, 1) := by decide +kernel
theorem dX3_sumOverPairs_17 : decode cX3_sumOverPairs 17 = .ok (.getfield 55, 3) := by decide +kernel
theorem dX3_sumOverPairs_20 : decode cX3_sumOverPairs 20 = .ok (.iload_n 2, 1) := by decide +kernel
theorem dX3_sumOverPairs_21 : decode cX3_sumOverPairs 21 = .ok (.iaload, 1) := by decide +kernel
theorem dX3_sumOverPairs_22 : decode cX3_sumOverPairs 22 = .ok (.aaload, 1) := by decide +kernel
theorem dX3_sumOverPairs_23 : decode cX3_sumOverPairs 23 = .ok (.getfield 86, 3) := by decide +kernel
theorem dX3_sumOverPairs_26 : decode cX3_sumOverPairs 26 = .ok (.istore_n 3, 1) := by decide +kernel
theorem dX3_sumOverPairs_27 : decode cX3_sumOverPairs 27 = .ok (.iconst 0, 1) := by decide +kernel
theorem dX3_sumOverPairs_28 : decode cX3_sumOverPairs 28 = .ok (.istore 4, 2) := by decide +kernel
theorem dX3_sumOverPairs_30 : decode cX3_sumOverPairs 30 = .ok (.iload 4, 2) := by decide +kernel
theorem dX3_sumOverPairs_32 : decode cX3_sumOverPairs 32 = .ok (.aload_n 0, 1) := by decide +kernel
theorem dX3_sumOverPairs_33 : decode cX3_sumOverPairs 33 = .ok (.getfield 52, 3) := by decide +kernel
theorem dX3_sumOverPairs_36 : decode cX3_sumOverPairs 36 = .ok (.if_icmp .ge 31, 3) := by decide +kernel
theorem dX3_sumOverPairs_39 : decode cX3_sumOverPairs 39 = .ok (.iload_n 1, 1) := by decide +kernel
theorem dX3_sumOverPairs_40 : decode cX3_sumOverPairs 40 = .ok (.iload_n 3, 1) := by decide +kernel
theorem dX3_sumOverPairs_41 : decode cX3_sumOverPairs 41 = .ok (.aload_n 0, 1) := by decide +kernel
theorem dX3_sumOverPairs_42 : decode cX3_sumOverPairs 42 = .ok (.getfield 33, 3) := by decide +kernel
theorem dX3_sumOverPairs_45 : decode cX3_sumOverPairs 45 = .ok (.aload_n 0, 1) := by decide +kernel
theorem dX3_sumOverPairs_46 : decode cX3_sumOverPairs 46 = .ok (.getfield 55, 3) := by decide +kernel
theorem dX3_sumOverPairs_49 : decode cX3_sumOverPairs 49 = .ok (.iload 4, 2) := by decide +kernel
theorem dX3_sumOverPairs_51 : decode cX3_sumOverPairs 51 = .ok (.iaload, 1) := by decide +kernel
theorem dX3_sumOverPairs_52 : decode cX3_sumOverPairs 52 = .ok (.aaload, 1) := by decide +kernel
theorem dX3_sumOverPairs_53 : decode cX3_sumOverPairs 53 = .ok (.getfield 86, 3) := by decide +kernel
theorem dX3_sumOverPairs_56 : decode cX3_sumOverPairs 56 = .ok (.invokestatic 146, 3) := by decide +kernel
theorem dX3_sumOverPairs_59 : decode cX3_sumOverPairs 59 = .ok (.iadd, 1) := by decide +kernel
theorem dX3_sumOverPairs_60 : decode cX3_sumOverPairs 60 = .ok (.istore_n 1, 1) := by decide +kernel
theorem dX3_sumOverPairs_61 : decode cX3_sumOverPairs 61 = .ok (.iinc 4 1, 3) := by decide +kernel
theorem dX3_sumOverPairs_64 : decode cX3_sumOverPairs 64 = .ok (.goto (-34), 3) := by decide +kernel
theorem dX3_sumOverPairs_67 : decode cX3_sumOverPairs 67 = .ok (.iinc 2 1, 3) := by decide +kernel
theorem dX3_sumOverPairs_70 : decode cX3_sumOverPairs 70 = .ok (.goto (-66), 3) := by decide +kernel
theorem dX3_sumOverPairs_73 : decode cX3_sumOverPairs 73 = .ok (.iload_n 1, 1) := by decide +kernel
theorem dX3_sumOverPairs_74 : decode cX3_sumOverPairs 74 = .ok (.ireturn, 1) := by decide +kernel
set_option maxRecDepth 20000 in
theorem ggX3_dispatch_X3_takeServer : GoodIn wsX3_dispatch wsX3_takeServer := goodIn_r _ [10, 11, 12, 13, 14, 15, 16, 9, 17, 18, 19, 20, 21, 22, 23, 24, 25, 26, 27, 28, 29, 30, 31, 32, 33, 2, 3, 34, 35, 36, 37, 38, 39, 40, 41, 42, 120, 121, 122, 123, 124, 93, 94, 95, 96, 97, 98, 99, 100, 101, 102, 103, 104, 105, 106, 107, 108, 109] (by decide +kernel) (by decide +kernel)
set_option maxRecDepth 20000 in
theorem gX3_dispatch_X3_takeServer : GoodIn wsX3_dispatch (wsV RX3 152 RX3 yX3_takeServer wsX3_takeServer) := goodIn_app (goodIn_of _ (by decide +kernel)) ggX3_dispatch_X3_takeServer
set_option maxRecDepth 20000 in
theorem ggX3_dispatch_X3_anyIdle : GoodIn wsX3_dispatch wsX3_anyIdle := goodIn_r _ [46, 47, 2, 48, 49, 50, 51, 52, 53, 54, 93, 94, 95, 96, 97, 98, 99, 100, 101, 102, 103, 104, 105, 106, 107, 108, 109] (by decide +kernel) (by decide +kernel)
set_option maxRecDepth 20000 in
theorem gX3_dispatch_X3_anyIdle : GoodIn wsX3_dispatch (wsV RX3 155 RX3 yX3_anyIdle wsX3_anyIdle) := goodIn_app (goodIn_of _ (by decide +kernel)) ggX3_dispatch_X3_anyIdle
set_option maxRecDepth 20000 in
theorem ggX3_dispatch_X3_leaveIdleList : GoodIn wsX3_dispatch wsX3_leaveIdleList := goodIn_r _ [58, 2, 59, 1, 60, 61, 62, 63, 64, 65, 66, 93, 94, 95, 96, 97, 98, 99, 100, 101, 102, 103, 104, 105, 106, 107, 108, 109, 120, 121, 122, 123, 124] (by decide +kernel) (by decide +kernel)
set_option maxRecDepth 20000 in
theorem gX3_dispatch_X3_leaveIdleList : GoodIn wsX3_dispatch (wsV RX3 83 RX3 yX3_leaveIdleList wsX3_leaveIdleList) := goodIn_app (goodIn_of _ (by decide +kernel)) ggX3_dispatch_X3_leaveIdleList
set_option maxRecDepth 20000 in
theorem ggX3_dispatch_X3_enqueue : GoodIn wsX3_dispatch wsX3_enqueue := goodIn_r _ [70, 4, 71, 2, 72, 73, 74, 3, 75, 76, 77, 78, 79, 80, 81, 82, 83, 84, 85, 86, 87, 88, 89, 90, 91, 92, 93, 94, 95, 96, 97, 98, 99, 100, 101, 102, 103, 104, 105, 106, 107, 108, 109, 110, 111, 112, 113, 114, 115, 116, 117, 118, 119] (by decide +kernel) (by decide +kernel)
set_option maxRecDepth 20000 in
theorem gX3_dispatch_X3_enqueue : GoodIn wsX3_dispatch (wsV RX3 162 RX3 yX3_enqueue wsX3_enqueue) := goodIn_app (goodIn_of _ (by decide +kernel)) ggX3_dispatch_X3_enqueue
theorem dX3_dispatch_0 : decode cX3_dispatch 0 = .ok (.aload_n 0, 1) := by decide +kernel
theorem dX3_dispatch_1 : decode cX3_dispatch 1 = .ok (.aload_n 0, 1) := by decide +kernel
theorem dX3_dispatch_2 : decode cX3_dispatch 2 = .ok (.getfield 40, 3) := by decide +kernel
theorem dX3_dispatch_5 : decode cX3_dispatch 5 = .ok (.iload_n 1, 1) := by decide +kernel
theorem dX3_dispatch_6 : decode cX3_dispatch 6 = .ok (.aaload, 1) := by decide +kernel
theorem dX3_dispatch_7 : decode cX3_dispatch 7 = .ok (.invokevirtual 152, 3) := by decide +kernel
theorem dX3_dispatch_10 : decode cX3_dispatch 10 = .ok (.istore_n 3, 1) := by decide +kernel
theorem dX3_dispatch_11 : decode cX3_dispatch 11 = .ok (.aload_n 0, 1) := by decide +kernel
theorem dX3_dispatch_12 : decode cX3_dispatch 12 = .ok (.getfield 33, 3) := by decide +kernel
theorem dX3_dispatch_15 : decode cX3_dispatch 15 = .ok (.iload_n 3, 1) := by decide +kernel
theorem dX3_dispatch_16 : decode cX3_dispatch 16 = .ok (.aaload, 1) := by decide +kernel
theorem dX3_dispatch_17 : decode cX3_dispatch 17 = .ok (.getfield 86, 3) := by decide +kernel
theorem dX3_dispatch_20 : decode cX3_dispatch 20 = .ok (.ifCond .le 23, 3) := by decide +kernel
theorem dX3_dispatch_23 : decode cX3_dispatch 23 = .ok (.aload_n 0, 1) := by decide +kernel
theorem dX3_dispatch_24 : decode cX3_dispatch 24 = .ok (.invokevirtual 155, 3) := by decide +kernel
theorem dX3_dispatch_27 : decode cX3_dispatch 27 = .ok (.ifCond .eq 16, 3) := by decide +kernel
theorem dX3_dispatch_30 : decode cX3_dispatch 30 = .ok (.aload_n 0, 1) := by decide +kernel
theorem dX3_dispatch_31 : decode cX3_dispatch 31 = .ok (.getfield 48, 3) := by decide +kernel
theorem dX3_dispatch_34 : decode cX3_dispatch 34 = .ok (.dup, 1) := by decide +kernel
theorem dX3_dispatch_35 : decode cX3_dispatch 35 = .ok (.getfield 159, 3) := by decide +kernel
theorem dX3_dispatch_38 : decode cX3_dispatch 38 = .ok (.iconst 1, 1) := by decide +kernel
theorem dX3_dispatch_39 : decode cX3_dispatch 39 = .ok (.iadd, 1) := by decide +kernel
theorem dX3_dispatch_40 : decode cX3_dispatch 40 = .ok (.putfield 159, 3) := by decide +kernel
theorem dX3_dispatch_43 : decode cX3_dispatch 43 = .ok (.aload_n 0, 1) := by decide +kernel
theorem dX3_dispatch_44 : decode cX3_dispatch 44 = .ok (.iload_n 3, 1) := by decide +kernel
theorem dX3_dispatch_45 : decode cX3_dispatch 45 = .ok (.invokevirtual 83, 3) := by decide +kernel
theorem dX3_dispatch_48 : decode cX3_dispatch 48 = .ok (.aload_n 0, 1) := by decide +kernel
theorem dX3_dispatch_49 : decode cX3_dispatch 49 = .ok (.iload_n 3, 1) := by decide +kernel
theorem dX3_dispatch_50 : decode cX3_dispatch 50 = .ok (.iload_n 2, 1) := by decide +kernel
theorem dX3_dispatch_51 : decode cX3_dispatch 51 = .ok (.invokevirtual 162, 3) := by decide +kernel
theorem dX3_dispatch_54 : decode cX3_dispatch 54 = .ok (.iload_n 3, 1) := by decide +kernel
theorem dX3_dispatch_55 : decode cX3_dispatch 55 = .ok (.ireturn, 1) := by decide +kernel
set_option maxRecDepth 20000 in
theorem ggX3_anyIdle_X2_isIdle : GoodIn wsX3_anyIdle wsX2_isIdle := goodIn_r _ [7, 8, 9, 21, 22, 23, 24, 25, 26] (by decide +kernel) (by decide +kernel)
set_option maxRecDepth 20000 in
theorem gX3_anyIdle_X2_isIdle : GoodIn wsX3_anyIdle (wsV RX3 166 RX2 yX2_isIdle wsX2_isIdle) := goodIn_app (goodIn_of _ (by decide +kernel)) ggX3_anyIdle_X2_isIdle
theorem dX3_anyIdle_0 : decode cX3_anyIdle 0 = .ok (.iconst 0, 1) := by decide +kernel
theorem dX3_anyIdle_1 : decode cX3_anyIdle 1 = .ok (.istore_n 1, 1) := by decide +kernel
theorem dX3_anyIdle_2 : decode cX3_anyIdle 2 = .ok (.iload_n 1, 1) := by decide +kernel
theorem dX3_anyIdle_3 : decode cX3_anyIdle 3 = .ok (.aload_n 0, 1) := by decide +kernel
theorem dX3_anyIdle_4 : decode cX3_anyIdle 4 = .ok (.getfield 25, 3) := by decide +kernel
theorem dX3_anyIdle_7 : decode cX3_anyIdle 7 = .ok (.if_icmp .ge 23, 3) := by decide +kernel
theorem dX3_anyIdle_10 : decode cX3_anyIdle 10 = .ok (.aload_n 0, 1) := by decide +kernel
theorem dX3_anyIdle_11 : decode cX3_anyIdle 11 = .ok (.getfield 33, 3) := by decide +kernel
theorem dX3_anyIdle_14 : decode cX3_anyIdle 14 = .ok (.iload_n 1, 1) := by decide +kernel
theorem dX3_anyIdle_15 : decode cX3_anyIdle 15 = .ok (.aaload, 1) := by decide +kernel
theorem dX3_anyIdle_16 : decode cX3_anyIdle 16 = .ok (.invokevirtual 166, 3) := by decide +kernel
theorem dX3_anyIdle_19 : decode cX3_anyIdle 19 = .ok (.ifCond .eq 5, 3) := by decide +kernel
theorem dX3_anyIdle_22 : decode cX3_anyIdle 22 = .ok (.iconst 1, 1) := by decide +kernel
theorem dX3_anyIdle_23 : decode cX3_anyIdle 23 = .ok (.ireturn, 1) := by decide +kernel
theorem dX3_anyIdle_24 : decode cX3_anyIdle 24 = .ok (.iinc 1 1, 3) := by decide +kernel
theorem dX3_anyIdle_27 : decode cX3_anyIdle 27 = .ok (.goto (-25), 3) := by decide +kernel
theorem dX3_anyIdle_30 : decode cX3_anyIdle 30 = .ok (.iconst 0, 1) := by decide +kernel
theorem dX3_anyIdle_31 : decode cX3_anyIdle 31 = .ok (.ireturn, 1) := by decide +kernel
set_option maxRecDepth 20000 in
theorem ggX3_enqueue_X1_append : GoodIn wsX3_enqueue wsX1_append := goodIn_r _ [13, 14, 15, 16, 17, 18, 19, 43, 44, 45, 46, 47, 48, 49, 50, 51, 52] (by decide +kernel) (by decide +kernel)
set_option maxRecDepth 20000 in
theorem gX3_enqueue_X1_append : GoodIn wsX3_enqueue (wsV RX3 169 RX1 yX1_append wsX1_append) := goodIn_app (goodIn_of _ (by decide +kernel)) ggX3_enqueue_X1_append
set_option maxRecDepth 20000 in
theorem ggX3_enqueue_X1_begin : GoodIn wsX3_enqueue wsX1_begin := goodIn_r _ [23, 18, 17, 24, 25, 43, 44, 45, 46, 47, 48, 49, 50, 51, 52] (by decide +kernel) (by decide +kernel)
set_option maxRecDepth 20000 in
theorem gX3_enqueue_X1_begin : GoodIn wsX3_enqueue (wsV RX3 179 RX1 yX1_begin wsX1_begin) := goodIn_app (goodIn_of _ (by decide +kernel)) ggX3_enqueue_X1_begin
theorem dX3_enqueue_0 : decode cX3_enqueue 0 = .ok (.aload_n 0, 1) := by decide +kernel
theorem dX3_enqueue_1 : decode cX3_enqueue 1 = .ok (.getfield 48, 3) := by decide +kernel
theorem dX3_enqueue_4 : decode cX3_enqueue 4 = .ok (.iload_n 1, 1) := by decide +kernel
theorem dX3_enqueue_5 : decode cX3_enqueue 5 = .ok (.iload_n 2, 1) := by decide +kernel
theorem dX3_enqueue_6 : decode cX3_enqueue 6 = .ok (.aload_n 0, 1) := by decide +kernel
theorem dX3_enqueue_7 : decode cX3_enqueue 7 = .ok (.getfield 9, 3) := by decide +kernel
theorem dX3_enqueue_10 : decode cX3_enqueue 10 = .ok (.invokevirtual 169, 3) := by decide +kernel
theorem dX3_enqueue_13 : decode cX3_enqueue 13 = .ok (.istore_n 3, 1) := by decide +kernel
theorem dX3_enqueue_14 : decode cX3_enqueue 14 = .ok (.iload_n 3, 1) := by decide +kernel
theorem dX3_enqueue_15 : decode cX3_enqueue 15 = .ok (.iconst (-1), 1) := by decide +kernel
theorem dX3_enqueue_16 : decode cX3_enqueue 16 = .ok (.if_icmp .ne 4, 3) := by decide +kernel
theorem dX3_enqueue_19 : decode cX3_enqueue 19 = .ok (.return_, 1) := by decide +kernel
theorem dX3_enqueue_20 : decode cX3_enqueue 20 = .ok (.aload_n 0, 1) := by decide +kernel
theorem dX3_enqueue_21 : decode cX3_enqueue 21 = .ok (.getfield 33, 3) := by decide +kernel
theorem dX3_enqueue_24 : decode cX3_enqueue 24 = .ok (.iload_n 1, 1) := by decide +kernel
theorem dX3_enqueue_25 : decode cX3_enqueue 25 = .ok (.aaload, 1) := by decide +kernel
theorem dX3_enqueue_26 : decode cX3_enqueue 26 = .ok (.astore 4, 2) := by decide +kernel
theorem dX3_enqueue_28 : decode cX3_enqueue 28 = .ok (.aload 4, 2) := by decide +kernel
theorem dX3_enqueue_30 : decode cX3_enqueue 30 = .ok (.getfield 173, 3) := by decide +kernel
theorem dX3_enqueue_33 : decode cX3_enqueue 33 = .ok (.iconst (-1), 1) := by decide +kernel
theorem dX3_enqueue_34 : decode cX3_enqueue 34 = .ok (.if_icmp .ne 24, 3) := by decide +kernel
theorem dX3_enqueue_37 : decode cX3_enqueue 37 = .ok (.aload 4, 2) := by decide +kernel
theorem dX3_enqueue_39 : decode cX3_enqueue 39 = .ok (.iload_n 3, 1) := by decide +kernel
theorem dX3_enqueue_40 : decode cX3_enqueue 40 = .ok (.putfield 176, 3) := by decide +kernel
theorem dX3_enqueue_43 : decode cX3_enqueue 43 = .ok (.aload_n 0, 1) := by decide +kernel
theorem dX3_enqueue_44 : decode cX3_enqueue 44 = .ok (.getfield 48, 3) := by decide +kernel
theorem dX3_enqueue_47 : decode cX3_enqueue 47 = .ok (.iload_n 3, 1) := by decide +kernel
theorem dX3_enqueue_48 : decode cX3_enqueue 48 = .ok (.aload_n 0, 1) := by decide +kernel
theorem dX3_enqueue_49 : decode cX3_enqueue 49 = .ok (.getfield 9, 3) := by decide +kernel
theorem dX3_enqueue_52 : decode cX3_enqueue 52 = .ok (.invokevirtual 179, 3) := by decide +kernel
theorem dX3_enqueue_55 : decode cX3_enqueue 55 = .ok (.goto 17, 3) := by decide +kernel
theorem dX3_enqueue_58 : decode cX3_enqueue 58 = .ok (.aload_n 0, 1) := by decide +kernel
theorem dX3_enqueue_59 : decode cX3_enqueue 59 = .ok (.getfield 48, 3) := by decide +kernel
theorem dX3_enqueue_62 : decode cX3_enqueue 62 = .ok (.getfield 182, 3) := by decide +kernel
theorem dX3_enqueue_65 : decode cX3_enqueue 65 = .ok (.aload 4, 2) := by decide +kernel
theorem dX3_enqueue_67 : decode cX3_enqueue 67 = .ok (.getfield 173, 3) := by decide +kernel
theorem dX3_enqueue_70 : decode cX3_enqueue 70 = .ok (.iload_n 3, 1) := by decide +kernel
theorem dX3_enqueue_71 : decode cX3_enqueue 71 = .ok (.iastore, 1) := by decide +kernel
theorem dX3_enqueue_72 : decode cX3_enqueue 72 = .ok (.aload 4, 2) := by decide +kernel
theorem dX3_enqueue_74 : decode cX3_enqueue 74 = .ok (.iload_n 3, 1) := by decide +kernel
theorem dX3_enqueue_75 : decode cX3_enqueue 75 = .ok (.putfield 173, 3) := by decide +kernel
theorem dX3_enqueue_78 : decode cX3_enqueue 78 = .ok (.aload 4, 2) := by decide +kernel
theorem dX3_enqueue_80 : decode cX3_enqueue 80 = .ok (.dup, 1) := by decide +kernel
theorem dX3_enqueue_81 : decode cX3_enqueue 81 = .ok (.getfield 86, 3) := by decide +kernel
theorem dX3_enqueue_84 : decode cX3_enqueue 84 = .ok (.iconst 1, 1) := by decide +kernel
theorem dX3_enqueue_85 : decode cX3_enqueue 85 = .ok (.iadd, 1) := by decide +kernel
theorem dX3_enqueue_86 : decode cX3_enqueue 86 = .ok (.putfield 86, 3) := by decide +kernel
theorem dX3_enqueue_89 : decode cX3_enqueue 89 = .ok (.aload 4, 2) := by decide +kernel
theorem dX3_enqueue_91 : decode cX3_enqueue 91 = .ok (.dup, 1) := by decide +kernel
theorem dX3_enqueue_92 : decode cX3_enqueue 92 = .ok (.getfield 185, 3) := by decide +kernel
theorem dX3_enqueue_95 : decode cX3_enqueue 95 = .ok (.iload_n 2, 1) := by decide +kernel
theorem dX3_enqueue_96 : decode cX3_enqueue 96 = .ok (.iadd, 1) := by decide +kernel
theorem dX3_enqueue_97 : decode cX3_enqueue 97 = .ok (.putfield 185, 3) := by decide +kernel
theorem dX3_enqueue_100 : decode cX3_enqueue 100 = .ok (.return_, 1) := by decide +kernel
set_option maxRecDepth 20000 in
theorem ggX3_passTick_X3_serve : GoodIn wsX3_passTick wsX3_serve := goodIn_r _ [8, 9, 10, 11, 12, 13, 14, 15, 16, 7, 17, 18, 19, 20, 21, 1, 22, 23, 24, 25, 26, 27, 28, 29, 30, 31, 32, 33, 34, 35, 36, 37, 38, 39, 40, 41, 42, 43, 44, 45, 46, 47, 48, 49, 50, 51, 52, 53, 54, 55, 56, 57, 58, 59, 60, 61, 62, 63, 64, 65, 66, 72, 73, 74, 75, 76, 77, 78, 79, 80, 81, 82, 83, 84, 85, 86, 87, 88, 89, 90, 91, 92, 93, 94, 95, 96, 97, 98, 99, 100, 101, 102, 103] (by decide +kernel) (by decide +kernel)
set_option maxRecDepth 20000 in
theorem gX3_passTick_X3_serve : GoodIn wsX3_passTick (wsV RX3 188 RX3 yX3_serve wsX3_serve) := goodIn_app (goodIn_of _ (by decide +kernel)) ggX3_passTick_X3_serve
set_option maxRecDepth 20000 in
theorem ggX3_passTick_X3_report : GoodIn wsX3_passTick wsX3_report := goodIn_r _ [70, 42, 2, 43, 71, 9, 19, 72, 73, 74, 75, 76, 77, 78, 79, 80, 81, 82, 99, 100, 101, 102, 103, 83, 84, 85, 86, 87, 88] (by decide +kernel) (by decide +kernel)
set_option maxRecDepth 20000 in
theorem gX3_passTick_X3_report : GoodIn wsX3_passTick (wsV RX3 191 RX3 yX3_report wsX3_report) := goodIn_app (goodIn_of _ (by decide +kernel)) ggX3_passTick_X3_report
theorem dX3_passTick_0 : decode cX3_passTick 0 = .ok (.aload_n 0, 1) := by decide +kernel
theorem dX3_passTick_1 : decode cX3_passTick 1 = .ok (.dup, 1) := by decide +kernel
theorem dX3_passTick_2 : decode cX3_passTick 2 = .ok (.getfield 9, 3) := by decide +kernel
theorem dX3_passTick_5 : decode cX3_passTick 5 = .ok (.iconst 1, 1) := by decide +kernel
theorem dX3_passTick_6 : decode cX3_passTick 6 = .ok (.iadd, 1) := by decide +kernel
theorem dX3_passTick_7 : decode cX3_passTick 7 = .ok (.putfield 9, 3) := by decide +kernel
theorem dX3_passTick_10 : decode cX3_passTick 10 = .ok (.iconst 0, 1) := by decide +kernel
theorem dX3_passTick_11 : decode cX3_passTick 11 = .ok (.istore_n 1, 1) := by decide +kernel
theorem dX3_passTick_12 : decode cX3_passTick 12 = .ok (.iload_n 1, 1) := by decide +kernel
theorem dX3_passTick_13 : decode cX3_passTick 13 = .ok (.aload_n 0, 1) := by decide +kernel
theorem dX3_passTick_14 : decode cX3_passTick 14 = .ok (.getfield 25, 3) := by decide +kernel
theorem dX3_passTick_17 : decode cX3_passTick 17 = .ok (.if_icmp .ge 14, 3) := by decide +kernel
theorem dX3_passTick_20 : decode cX3_passTick 20 = .ok (.aload_n 0, 1) := by decide +kernel
theorem dX3_passTick_21 : decode cX3_passTick 21 = .ok (.iload_n 1, 1) := by decide +kernel
theorem dX3_passTick_22 : decode cX3_passTick 22 = .ok (.invokevirtual 188, 3) := by decide +kernel
theorem dX3_passTick_25 : decode cX3_passTick 25 = .ok (.iinc 1 1, 3) := by decide +kernel
theorem dX3_passTick_28 : decode cX3_passTick 28 = .ok (.goto (-16), 3) := by decide +kernel
theorem dX3_passTick_31 : decode cX3_passTick 31 = .ok (.aload_n 0, 1) := by decide +kernel
theorem dX3_passTick_32 : decode cX3_passTick 32 = .ok (.getfield 22, 3) := by decide +kernel
theorem dX3_passTick_35 : decode cX3_passTick 35 = .ok (.ifCond .le 19, 3) := by decide +kernel
theorem dX3_passTick_38 : decode cX3_passTick 38 = .ok (.aload_n 0, 1) := by decide +kernel
theorem dX3_passTick_39 : decode cX3_passTick 39 = .ok (.getfield 9, 3) := by decide +kernel
theorem dX3_passTick_42 : decode cX3_passTick 42 = .ok (.aload_n 0, 1) := by decide +kernel
theorem dX3_passTick_43 : decode cX3_passTick 43 = .ok (.getfield 22, 3) := by decide +kernel
theorem dX3_passTick_46 : decode cX3_passTick 46 = .ok (.irem, 1) := by decide +kernel
theorem dX3_passTick_47 : decode cX3_passTick 47 = .ok (.ifCond .ne 7, 3) := by decide +kernel
theorem dX3_passTick_50 : decode cX3_passTick 50 = .ok (.aload_n 0, 1) := by decide +kernel
theorem dX3_passTick_51 : decode cX3_passTick 51 = .ok (.invokevirtual 191, 3) := by decide +kernel
theorem dX3_passTick_54 : decode cX3_passTick 54 = .ok (.return_, 1) := by decide +kernel
set_option maxRecDepth 20000 in
theorem ggX3_serve_X3_finish : GoodIn wsX3_serve wsX3_finish := goodIn_r _ [10, 4, 11, 12, 13, 2, 14, 15, 16, 17, 18, 19, 20, 21, 22, 23, 24, 61, 62, 63, 64, 65, 66, 67, 68, 69, 70, 71, 78, 79, 80, 81, 82, 83, 84, 85, 86, 87, 72, 73, 74, 75, 76, 77] (by decide +kernel) (by decide +kernel)
set_option maxRecDepth 20000 in
theorem gX3_serve_X3_finish : GoodIn wsX3_serve (wsV RX3 197 RX3 yX3_finish wsX3_finish) := goodIn_app (goodIn_of _ (by decide +kernel)) ggX3_serve_X3_finish
set_option maxRecDepth 20000 in
theorem ggX3_serve_X2_isIdle : GoodIn wsX3_serve wsX2_isIdle := goodIn_r _ [29, 30, 31, 72, 73, 74, 75, 76, 77] (by decide +kernel) (by decide +kernel)
set_option maxRecDepth 20000 in
theorem gX3_serve_X2_isIdle : GoodIn wsX3_serve (wsV RX3 166 RX2 yX2_isIdle wsX2_isIdle) := goodIn_app (goodIn_of _ (by decide +kernel)) ggX3_serve_X2_isIdle
set_option maxRecDepth 20000 in
theorem ggX3_serve_X3_register : GoodIn wsX3_serve wsX3_register := goodIn_r _ [35, 36, 37, 1, 38, 39, 40, 41, 9, 42, 43, 44, 45, 46, 47, 48, 49, 50, 51, 52, 53, 54, 55, 56, 57, 58, 59, 60, 61, 62, 63, 64, 65, 66, 67, 68, 69, 70, 71, 72, 73, 74, 75, 76, 77, 88, 89, 90, 91, 92] (by decide +kernel) (by decide +kernel)
set_option maxRecDepth 20000 in
theorem gX3_serve_X3_register : GoodIn wsX3_serve (wsV RX3 72 RX3 yX3_register wsX3_register) := goodIn_app (goodIn_of _ (by decide +kernel)) ggX3_serve_X3_register
theorem dX3_serve_0 : decode cX3_serve 0 = .ok (.aload_n 0, 1) := by decide +kernel
theorem dX3_serve_1 : decode cX3_serve 1 = .ok (.getfield 33, 3) := by decide +kernel
theorem dX3_serve_4 : decode cX3_serve 4 = .ok (.iload_n 1, 1) := by decide +kernel
theorem dX3_serve_5 : decode cX3_serve 5 = .ok (.aaload, 1) := by decide +kernel
theorem dX3_serve_6 : decode cX3_serve 6 = .ok (.astore_n 2, 1) := by decide +kernel
theorem dX3_serve_7 : decode cX3_serve 7 = .ok (.aload_n 2, 1) := by decide +kernel
theorem dX3_serve_8 : decode cX3_serve 8 = .ok (.getfield 176, 3) := by decide +kernel
theorem dX3_serve_11 : decode cX3_serve 11 = .ok (.istore_n 3, 1) := by decide +kernel
theorem dX3_serve_12 : decode cX3_serve 12 = .ok (.iload_n 3, 1) := by decide +kernel
theorem dX3_serve_13 : decode cX3_serve 13 = .ok (.iconst (-1), 1) := by decide +kernel
theorem dX3_serve_14 : decode cX3_serve 14 = .ok (.if_icmp .ne 4, 3) := by decide +kernel
theorem dX3_serve_17 : decode cX3_serve 17 = .ok (.return_, 1) := by decide +kernel
theorem dX3_serve_18 : decode cX3_serve 18 = .ok (.aload_n 2, 1) := by decide +kernel
theorem dX3_serve_19 : decode cX3_serve 19 = .ok (.dup, 1) := by decide +kernel
theorem dX3_serve_20 : decode cX3_serve 20 = .ok (.getfield 185, 3) := by decide +kernel
theorem dX3_serve_23 : decode cX3_serve 23 = .ok (.iconst 1, 1) := by decide +kernel
theorem dX3_serve_24 : decode cX3_serve 24 = .ok (.isub, 1) := by decide +kernel
theorem dX3_serve_25 : decode cX3_serve 25 = .ok (.putfield 185, 3) := by decide +kernel
theorem dX3_serve_28 : decode cX3_serve 28 = .ok (.aload_n 0, 1) := by decide +kernel
theorem dX3_serve_29 : decode cX3_serve 29 = .ok (.getfield 48, 3) := by decide +kernel
theorem dX3_serve_32 : decode cX3_serve 32 = .ok (.getfield 194, 3) := by decide +kernel
theorem dX3_serve_35 : decode cX3_serve 35 = .ok (.iload_n 3, 1) := by decide +kernel
theorem dX3_serve_36 : decode cX3_serve 36 = .ok (.dup2, 1) := by decide +kernel
theorem dX3_serve_37 : decode cX3_serve 37 = .ok (.iaload, 1) := by decide +kernel
theorem dX3_serve_38 : decode cX3_serve 38 = .ok (.iconst 1, 1) := by decide +kernel
theorem dX3_serve_39 : decode cX3_serve 39 = .ok (.isub, 1) := by decide +kernel
theorem dX3_serve_40 : decode cX3_serve 40 = .ok (.iastore, 1) := by decide +kernel
theorem dX3_serve_41 : decode cX3_serve 41 = .ok (.aload_n 0, 1) := by decide +kernel
theorem dX3_serve_42 : decode cX3_serve 42 = .ok (.getfield 48, 3) := by decide +kernel
theorem dX3_serve_45 : decode cX3_serve 45 = .ok (.getfield 194, 3) := by decide +kernel
theorem dX3_serve_48 : decode cX3_serve 48 = .ok (.iload_n 3, 1) := by decide +kernel
theorem dX3_serve_49 : decode cX3_serve 49 = .ok (.iaload, 1) := by decide +kernel
theorem dX3_serve_50 : decode cX3_serve 50 = .ok (.ifCond .gt 21, 3) := by decide +kernel
theorem dX3_serve_53 : decode cX3_serve 53 = .ok (.aload_n 0, 1) := by decide +kernel
theorem dX3_serve_54 : decode cX3_serve 54 = .ok (.aload_n 2, 1) := by decide +kernel
theorem dX3_serve_55 : decode cX3_serve 55 = .ok (.iload_n 3, 1) := by decide +kernel
theorem dX3_serve_56 : decode cX3_serve 56 = .ok (.invokevirtual 197, 3) := by decide +kernel
theorem dX3_serve_59 : decode cX3_serve 59 = .ok (.aload_n 2, 1) := by decide +kernel
theorem dX3_serve_60 : decode cX3_serve 60 = .ok (.invokevirtual 166, 3) := by decide +kernel
theorem dX3_serve_63 : decode cX3_serve 63 = .ok (.ifCond .eq 8, 3) := by decide +kernel
theorem dX3_serve_66 : decode cX3_serve 66 = .ok (.aload_n 0, 1) := by decide +kernel
theorem dX3_serve_67 : decode cX3_serve 67 = .ok (.iload_n 1, 1) := by decide +kernel
theorem dX3_serve_68 : decode cX3_serve 68 = .ok (.invokevirtual 72, 3) := by decide +kernel
theorem dX3_serve_71 : decode cX3_serve 71 = .ok (.return_, 1) := by decide +kernel
set_option maxRecDepth 20000 in
theorem ggX3_finish_X1_begin : GoodIn wsX3_finish wsX1_begin := goodIn_r _ [12, 13, 14, 15, 16, 28, 29, 30, 31, 32, 33, 34, 35, 36, 37] (by decide +kernel) (by decide +kernel)
set_option maxRecDepth 20000 in
theorem gX3_finish_X1_begin : GoodIn wsX3_finish (wsV RX3 179 RX1 yX1_begin wsX1_begin) := goodIn_app (goodIn_of _ (by decide +kernel)) ggX3_finish_X1_begin
theorem dX3_finish_0 : decode cX3_finish 0 = .ok (.aload_n 0, 1) := by decide +kernel
theorem dX3_finish_1 : decode cX3_finish 1 = .ok (.getfield 48, 3) := by decide +kernel
theorem dX3_finish_4 : decode cX3_finish 4 = .ok (.dup, 1) := by decide +kernel
theorem dX3_finish_5 : decode cX3_finish 5 = .ok (.getfield 201, 3) := by decide +kernel
theorem dX3_finish_8 : decode cX3_finish 8 = .ok (.iconst 1, 1) := by decide +kernel
theorem dX3_finish_9 : decode cX3_finish 9 = .ok (.iadd, 1) := by decide +kernel
theorem dX3_finish_10 : decode cX3_finish 10 = .ok (.putfield 201, 3) := by decide +kernel
theorem dX3_finish_13 : decode cX3_finish 13 = .ok (.aload_n 1, 1) := by decide +kernel
theorem dX3_finish_14 : decode cX3_finish 14 = .ok (.dup, 1) := by decide +kernel
theorem dX3_finish_15 : decode cX3_finish 15 = .ok (.getfield 86, 3) := by decide +kernel
theorem dX3_finish_18 : decode cX3_finish 18 = .ok (.iconst 1, 1) := by decide +kernel
theorem dX3_finish_19 : decode cX3_finish 19 = .ok (.isub, 1) := by decide +kernel
theorem dX3_finish_20 : decode cX3_finish 20 = .ok (.putfield 86, 3) := by decide +kernel
theorem dX3_finish_23 : decode cX3_finish 23 = .ok (.aload_n 1, 1) := by decide +kernel
theorem dX3_finish_24 : decode cX3_finish 24 = .ok (.aload_n 0, 1) := by decide +kernel
theorem dX3_finish_25 : decode cX3_finish 25 = .ok (.getfield 48, 3) := by decide +kernel
theorem dX3_finish_28 : decode cX3_finish 28 = .ok (.getfield 182, 3) := by decide +kernel
theorem dX3_finish_31 : decode cX3_finish 31 = .ok (.iload_n 2, 1) := by decide +kernel
theorem dX3_finish_32 : decode cX3_finish 32 = .ok (.iaload, 1) := by decide +kernel
theorem dX3_finish_33 : decode cX3_finish 33 = .ok (.putfield 176, 3) := by decide +kernel
theorem dX3_finish_36 : decode cX3_finish 36 = .ok (.aload_n 1, 1) := by decide +kernel
theorem dX3_finish_37 : decode cX3_finish 37 = .ok (.getfield 176, 3) := by decide +kernel
theorem dX3_finish_40 : decode cX3_finish 40 = .ok (.iconst (-1), 1) := by decide +kernel
theorem dX3_finish_41 : decode cX3_finish 41 = .ok (.if_icmp .ne 11, 3) := by decide +kernel
theorem dX3_finish_44 : decode cX3_finish 44 = .ok (.aload_n 1, 1) := by decide +kernel
theorem dX3_finish_45 : decode cX3_finish 45 = .ok (.iconst (-1), 1) := by decide +kernel
theorem dX3_finish_46 : decode cX3_finish 46 = .ok (.putfield 173, 3) := by decide +kernel
theorem dX3_finish_49 : decode cX3_finish 49 = .ok (.goto 18, 3) := by decide +kernel
theorem dX3_finish_52 : decode cX3_finish 52 = .ok (.aload_n 0, 1) := by decide +kernel
theorem dX3_finish_53 : decode cX3_finish 53 = .ok (.getfield 48, 3) := by decide +kernel
theorem dX3_finish_56 : decode cX3_finish 56 = .ok (.aload_n 1, 1) := by decide +kernel
theorem dX3_finish_57 : decode cX3_finish 57 = .ok (.getfield 176, 3) := by decide +kernel
theorem dX3_finish_60 : decode cX3_finish 60 = .ok (.aload_n 0, 1) := by decide +kernel
theorem dX3_finish_61 : decode cX3_finish 61 = .ok (.getfield 9, 3) := by decide +kernel
theorem dX3_finish_64 : decode cX3_finish 64 = .ok (.invokevirtual 179, 3) := by decide +kernel
theorem dX3_finish_67 : decode cX3_finish 67 = .ok (.return_, 1) := by decide +kernel
theorem dX3_report_0 : decode cX3_report 0 = .ok (.iconst 0, 1) := by decide +kernel
theorem dX3_report_1 : decode cX3_report 1 = .ok (.istore_n 1, 1) := by decide +kernel
theorem dX3_report_2 : decode cX3_report 2 = .ok (.iload_n 1, 1) := by decide +kernel
theorem dX3_report_3 : decode cX3_report 3 = .ok (.aload_n 0, 1) := by decide +kernel
theorem dX3_report_4 : decode cX3_report 4 = .ok (.getfield 28, 3) := by decide +kernel
theorem dX3_report_7 : decode cX3_report 7 = .ok (.if_icmp .ge 45, 3) := by decide +kernel
theorem dX3_report_10 : decode cX3_report 10 = .ok (.iconst 0, 1) := by decide +kernel
theorem dX3_report_11 : decode cX3_report 11 = .ok (.istore_n 2, 1) := by decide +kernel
theorem dX3_report_12 : decode cX3_report 12 = .ok (.iload_n 2, 1) := by decide +kernel
theorem dX3_report_13 : decode cX3_report 13 = .ok (.aload_n 0, 1) := by decide +kernel
theorem dX3_report_14 : decode cX3_report 14 = .ok (.getfield 25, 3) := by decide +kernel
theorem dX3_report_17 : decode cX3_report 17 = .ok (.if_icmp .ge 29, 3) := by decide +kernel
theorem dX3_report_20 : decode cX3_report 20 = .ok (.aload_n 0, 1) := by decide +kernel
theorem dX3_report_21 : decode cX3_report 21 = .ok (.getfield 40, 3) := by decide +kernel
theorem dX3_report_24 : decode cX3_report 24 = .ok (.iload_n 1, 1) := by decide +kernel
theorem dX3_report_25 : decode cX3_report 25 = .ok (.aaload, 1) := by decide +kernel
theorem dX3_report_26 : decode cX3_report 26 = .ok (.getfield 125, 3) := by decide +kernel
theorem dX3_report_29 : decode cX3_report 29 = .ok (.iload_n 2, 1) := by decide +kernel
theorem dX3_report_30 : decode cX3_report 30 = .ok (.aload_n 0, 1) := by decide +kernel
theorem dX3_report_31 : decode cX3_report 31 = .ok (.getfield 33, 3) := by decide +kernel
theorem dX3_report_34 : decode cX3_report 34 = .ok (.iload_n 2, 1) := by decide +kernel
theorem dX3_report_35 : decode cX3_report 35 = .ok (.aaload, 1) := by decide +kernel
theorem dX3_report_36 : decode cX3_report 36 = .ok (.getfield 86, 3) := by decide +kernel
theorem dX3_report_39 : decode cX3_report 39 = .ok (.iastore, 1) := by decide +kernel
theorem dX3_report_40 : decode cX3_report 40 = .ok (.iinc 2 1, 3) := by decide +kernel
theorem dX3_report_43 : decode cX3_report 43 = .ok (.goto (-31), 3) := by decide +kernel
theorem dX3_report_46 : decode cX3_report 46 = .ok (.iinc 1 1, 3) := by decide +kernel
theorem dX3_report_49 : decode cX3_report 49 = .ok (.goto (-47), 3) := by decide +kernel
theorem dX3_report_52 : decode cX3_report 52 = .ok (.return_, 1) := by decide +kernel
set_option maxRecDepth 20000 in
theorem ggX3_mixAll_X4_mix : GoodIn wsX3_mixAll wsX4_mix := goodIn_r _ [16, 17] (by decide +kernel) (by decide +kernel)
set_option maxRecDepth 20000 in
theorem gX3_mixAll_X4_mix_n204 : GoodIn wsX3_mixAll (wsX4_mix) := ggX3_mixAll_X4_mix
set_option maxRecDepth 20000 in
theorem ggX3_mixAll_X2_mixAll : GoodIn wsX3_mixAll wsX2_mixAll := goodIn_r _ [22, 23, 24, 25, 26, 14, 15, 16, 17, 58, 59, 60, 61, 62, 63] (by decide +kernel) (by decide +kernel)
set_option maxRecDepth 20000 in
theorem gX3_mixAll_X2_mixAll : GoodIn wsX3_mixAll (wsV RX3 208 RX2 yX2_mixAll wsX2_mixAll) := goodIn_app (goodIn_of _ (by decide +kernel)) ggX3_mixAll_X2_mixAll
set_option maxRecDepth 20000 in
theorem ggX3_mixAll_X0_mixAll : GoodIn wsX3_mixAll wsX0_mixAll := goodIn_r _ [31, 32, 33, 34, 35, 36, 14, 15, 16, 17, 64, 65, 66, 67, 68] (by decide +kernel) (by decide +kernel)
set_option maxRecDepth 20000 in
theorem gX3_mixAll_X0_mixAll : GoodIn wsX3_mixAll (wsV RX3 212 RX0 yX0_mixAll wsX0_mixAll) := goodIn_app (goodIn_of _ (by decide +kernel)) ggX3_mixAll_X0_mixAll
theorem dX3_mixAll_0 : decode cX3_mixAll 0 = .ok (.lload_n 1, 1) := by decide +kernel
theorem dX3_mixAll_1 : decode cX3_mixAll 1 = .ok (.aload_n 0, 1) := by decide +kernel
theorem dX3_mixAll_2 : decode cX3_mixAll 2 = .ok (.getfield 9, 3) := by decide +kernel
theorem dX3_mixAll_5 : decode cX3_mixAll 5 = .ok (.i2l, 1) := by decide +kernel
theorem dX3_mixAll_6 : decode cX3_mixAll 6 = .ok (.invokestatic 204, 3) := by decide +kernel
theorem dX3_mixAll_9 : decode cX3_mixAll 9 = .ok (.lstore_n 3, 1) := by decide +kernel
theorem dX3_mixAll_10 : decode cX3_mixAll 10 = .ok (.lload_n 3, 1) := by decide +kernel
theorem dX3_mixAll_11 : decode cX3_mixAll 11 = .ok (.aload_n 0, 1) := by decide +kernel
theorem dX3_mixAll_12 : decode cX3_mixAll 12 = .ok (.getfield 15, 3) := by decide +kernel
theorem dX3_mixAll_15 : decode cX3_mixAll 15 = .ok (.invokestatic 204, 3) := by decide +kernel
theorem dX3_mixAll_18 : decode cX3_mixAll 18 = .ok (.lstore_n 3, 1) := by decide +kernel
theorem dX3_mixAll_19 : decode cX3_mixAll 19 = .ok (.lload_n 3, 1) := by decide +kernel
theorem dX3_mixAll_20 : decode cX3_mixAll 20 = .ok (.aload_n 0, 1) := by decide +kernel
theorem dX3_mixAll_21 : decode cX3_mixAll 21 = .ok (.getfield 19, 3) := by decide +kernel
theorem dX3_mixAll_24 : decode cX3_mixAll 24 = .ok (.i2l, 1) := by decide +kernel
theorem dX3_mixAll_25 : decode cX3_mixAll 25 = .ok (.invokestatic 204, 3) := by decide +kernel
theorem dX3_mixAll_28 : decode cX3_mixAll 28 = .ok (.lstore_n 3, 1) := by decide +kernel
theorem dX3_mixAll_29 : decode cX3_mixAll 29 = .ok (.lload_n 3, 1) := by decide +kernel
theorem dX3_mixAll_30 : decode cX3_mixAll 30 = .ok (.aload_n 0, 1) := by decide +kernel
theorem dX3_mixAll_31 : decode cX3_mixAll 31 = .ok (.getfield 22, 3) := by decide +kernel
theorem dX3_mixAll_34 : decode cX3_mixAll 34 = .ok (.i2l, 1) := by decide +kernel
theorem dX3_mixAll_35 : decode cX3_mixAll 35 = .ok (.invokestatic 204, 3) := by decide +kernel
theorem dX3_mixAll_38 : decode cX3_mixAll 38 = .ok (.lstore_n 3, 1) := by decide +kernel
theorem dX3_mixAll_39 : decode cX3_mixAll 39 = .ok (.lload_n 3, 1) := by decide +kernel
theorem dX3_mixAll_40 : decode cX3_mixAll 40 = .ok (.aload_n 0, 1) := by decide +kernel
theorem dX3_mixAll_41 : decode cX3_mixAll 41 = .ok (.getfield 25, 3) := by decide +kernel
theorem dX3_mixAll_44 : decode cX3_mixAll 44 = .ok (.i2l, 1) := by decide +kernel
theorem dX3_mixAll_45 : decode cX3_mixAll 45 = .ok (.invokestatic 204, 3) := by decide +kernel
theorem dX3_mixAll_48 : decode cX3_mixAll 48 = .ok (.lstore_n 3, 1) := by decide +kernel
theorem dX3_mixAll_49 : decode cX3_mixAll 49 = .ok (.iconst 0, 1) := by decide +kernel
theorem dX3_mixAll_50 : decode cX3_mixAll 50 = .ok (.istore 5, 2) := by decide +kernel
theorem dX3_mixAll_52 : decode cX3_mixAll 52 = .ok (.iload 5, 2) := by decide +kernel
theorem dX3_mixAll_54 : decode cX3_mixAll 54 = .ok (.aload_n 0, 1) := by decide +kernel
theorem dX3_mixAll_55 : decode cX3_mixAll 55 = .ok (.getfield 25, 3) := by decide +kernel
theorem dX3_mixAll_58 : decode cX3_mixAll 58 = .ok (.if_icmp .ge 21, 3) := by decide +kernel
theorem dX3_mixAll_61 : decode cX3_mixAll 61 = .ok (.aload_n 0, 1) := by decide +kernel
theorem dX3_mixAll_62 : decode cX3_mixAll 62 = .ok (.getfield 33, 3) := by decide +kernel
theorem dX3_mixAll_65 : decode cX3_mixAll 65 = .ok (.iload 5, 2) := by decide +kernel
theorem dX3_mixAll_67 : decode cX3_mixAll 67 = .ok (.aaload, 1) := by decide +kernel
theorem dX3_mixAll_68 : decode cX3_mixAll 68 = .ok (.lload_n 3, 1) := by decide +kernel
theorem dX3_mixAll_69 : decode cX3_mixAll 69 = .ok (.invokevirtual 208, 3) := by decide +kernel
theorem dX3_mixAll_72 : decode cX3_mixAll 72 = .ok (.lstore_n 3, 1) := by decide +kernel
theorem dX3_mixAll_73 : decode cX3_mixAll 73 = .ok (.iinc 5 1, 3) := by decide +kernel
theorem dX3_mixAll_76 : decode cX3_mixAll 76 = .ok (.goto (-24), 3) := by decide +kernel
theorem dX3_mixAll_79 : decode cX3_mixAll 79 = .ok (.lload_n 3, 1) := by decide +kernel
theorem dX3_mixAll_80 : decode cX3_mixAll 80 = .ok (.aload_n 0, 1) := by decide +kernel
theorem dX3_mixAll_81 : decode cX3_mixAll 81 = .ok (.getfield 28, 3) := by decide +kernel
theorem dX3_mixAll_84 : decode cX3_mixAll 84 = .ok (.i2l, 1) := by decide +kernel
theorem dX3_mixAll_85 : decode cX3_mixAll 85 = .ok (.invokestatic 204, 3) := by decide +kernel
theorem dX3_mixAll_88 : decode cX3_mixAll 88 = .ok (.lstore_n 3, 1) := by decide +kernel
theorem dX3_mixAll_89 : decode cX3_mixAll 89 = .ok (.iconst 0, 1) := by decide +kernel
theorem dX3_mixAll_90 : decode cX3_mixAll 90 = .ok (.istore 5, 2) := by decide +kernel
theorem dX3_mixAll_92 : decode cX3_mixAll 92 = .ok (.iload 5, 2) := by decide +kernel
theorem dX3_mixAll_94 : decode cX3_mixAll 94 = .ok (.aload_n 0, 1) := by decide +kernel
theorem dX3_mixAll_95 : decode cX3_mixAll 95 = .ok (.getfield 28, 3) := by decide +kernel
theorem dX3_mixAll_98 : decode cX3_mixAll 98 = .ok (.if_icmp .ge 25, 3) := by decide +kernel
theorem dX3_mixAll_101 : decode cX3_mixAll 101 = .ok (.aload_n 0, 1) := by decide +kernel
theorem dX3_mixAll_102 : decode cX3_mixAll 102 = .ok (.getfield 40, 3) := by decide +kernel
theorem dX3_mixAll_105 : decode cX3_mixAll 105 = .ok (.iload 5, 2) := by decide +kernel
theorem dX3_mixAll_107 : decode cX3_mixAll 107 = .ok (.aaload, 1) := by decide +kernel
theorem dX3_mixAll_108 : decode cX3_mixAll 108 = .ok (.lload_n 3, 1) := by decide +kernel
theorem dX3_mixAll_109 : decode cX3_mixAll 109 = .ok (.aload_n 0, 1) := by decide +kernel
theorem dX3_mixAll_110 : decode cX3_mixAll 110 = .ok (.getfield 25, 3) := by decide +kernel
theorem dX3_mixAll_113 : decode cX3_mixAll 113 = .ok (.invokevirtual 212, 3) := by decide +kernel
theorem dX3_mixAll_116 : decode cX3_mixAll 116 = .ok (.lstore_n 3, 1) := by decide +kernel
theorem dX3_mixAll_117 : decode cX3_mixAll 117 = .ok (.iinc 5 1, 3) := by decide +kernel
theorem dX3_mixAll_120 : decode cX3_mixAll 120 = .ok (.goto (-28), 3) := by decide +kernel
theorem dX3_mixAll_123 : decode cX3_mixAll 123 = .ok (.lload_n 3, 1) := by decide +kernel
theorem dX3_mixAll_124 : decode cX3_mixAll 124 = .ok (.aload_n 0, 1) := by decide +kernel
theorem dX3_mixAll_125 : decode cX3_mixAll 125 = .ok (.getfield 48, 3) := by decide +kernel
theorem dX3_mixAll_128 : decode cX3_mixAll 128 = .ok (.getfield 215, 3) := by decide +kernel
theorem dX3_mixAll_131 : decode cX3_mixAll 131 = .ok (.i2l, 1) := by decide +kernel
theorem dX3_mixAll_132 : decode cX3_mixAll 132 = .ok (.invokestatic 204, 3) := by decide +kernel
theorem dX3_mixAll_135 : decode cX3_mixAll 135 = .ok (.lstore_n 3, 1) := by decide +kernel
theorem dX3_mixAll_136 : decode cX3_mixAll 136 = .ok (.lload_n 3, 1) := by decide +kernel
theorem dX3_mixAll_137 : decode cX3_mixAll 137 = .ok (.aload_n 0, 1) := by decide +kernel
theorem dX3_mixAll_138 : decode cX3_mixAll 138 = .ok (.getfield 48, 3) := by decide +kernel
theorem dX3_mixAll_141 : decode cX3_mixAll 141 = .ok (.getfield 201, 3) := by decide +kernel
theorem dX3_mixAll_144 : decode cX3_mixAll 144 = .ok (.i2l, 1) := by decide +kernel
theorem dX3_mixAll_145 : decode cX3_mixAll 145 = .ok (.invokestatic 204, 3) := by decide +kernel
theorem dX3_mixAll_148 : decode cX3_mixAll 148 = .ok (.lstore_n 3, 1) := by decide +kernel
theorem dX3_mixAll_149 : decode cX3_mixAll 149 = .ok (.lload_n 3, 1) := by decide +kernel
theorem dX3_mixAll_150 : decode cX3_mixAll 150 = .ok (.aload_n 0, 1) := by decide +kernel
theorem dX3_mixAll_151 : decode cX3_mixAll 151 = .ok (.getfield 48, 3) := by decide +kernel
theorem dX3_mixAll_154 : decode cX3_mixAll 154 = .ok (.getfield 218, 3) := by decide +kernel
theorem dX3_mixAll_157 : decode cX3_mixAll 157 = .ok (.i2l, 1) := by decide +kernel
theorem dX3_mixAll_158 : decode cX3_mixAll 158 = .ok (.invokestatic 204, 3) := by decide +kernel
theorem dX3_mixAll_161 : decode cX3_mixAll 161 = .ok (.lstore_n 3, 1) := by decide +kernel
theorem dX3_mixAll_162 : decode cX3_mixAll 162 = .ok (.lload_n 3, 1) := by decide +kernel
theorem dX3_mixAll_163 : decode cX3_mixAll 163 = .ok (.aload_n 0, 1) := by decide +kernel
theorem dX3_mixAll_164 : decode cX3_mixAll 164 = .ok (.getfield 48, 3) := by decide +kernel
theorem dX3_mixAll_167 : decode cX3_mixAll 167 = .ok (.getfield 159, 3) := by decide +kernel
theorem dX3_mixAll_170 : decode cX3_mixAll 170 = .ok (.i2l, 1) := by decide +kernel
theorem dX3_mixAll_171 : decode cX3_mixAll 171 = .ok (.invokestatic 204, 3) := by decide +kernel
theorem dX3_mixAll_174 : decode cX3_mixAll 174 = .ok (.lreturn, 1) := by decide +kernel
set_option maxRecDepth 20000 in
theorem ggX4_init_X3_init : GoodIn wsX4_init wsX3_init := goodIn_r _ [12, 13, 2, 3, 14, 15, 16, 17, 18, 19, 20, 21, 22, 23, 24, 25, 26, 27, 28, 29, 30, 31, 32, 33, 34, 35, 36, 37, 38, 39, 40, 41, 42, 43, 44, 45, 46, 47, 48, 49, 50, 51, 52, 53, 54, 55, 56, 57, 58, 59, 60, 61, 62, 63, 64, 65, 66, 67, 68, 69, 70, 71, 72, 73, 74, 75, 76, 77, 78, 82, 83, 84, 85, 86, 87, 88, 89, 90, 91, 92, 93, 94, 95, 96, 97, 98, 99, 100, 101, 102] (by decide +kernel) (by decide +kernel)
set_option maxRecDepth 20000 in
theorem gX4_init_X3_init : GoodIn wsX4_init (wsX3_init) := ggX4_init_X3_init
theorem dX4_init_0 : decode cX4_init 0 = .ok (.aload_n 0, 1) := by decide +kernel
theorem dX4_init_1 : decode cX4_init 1 = .ok (.invokespecial 1, 3) := by decide +kernel
theorem dX4_init_4 : decode cX4_init 4 = .ok (.aload_n 0, 1) := by decide +kernel
theorem dX4_init_5 : decode cX4_init 5 = .ok (.new 7, 3) := by decide +kernel
theorem dX4_init_8 : decode cX4_init 8 = .ok (.dup, 1) := by decide +kernel
theorem dX4_init_9 : decode cX4_init 9 = .ok (.invokespecial 9, 3) := by decide +kernel
theorem dX4_init_12 : decode cX4_init 12 = .ok (.putfield 10, 3) := by decide +kernel
theorem dX4_init_15 : decode cX4_init 15 = .ok (.aload_n 0, 1) := by decide +kernel
theorem dX4_init_16 : decode cX4_init 16 = .ok (.iconst 3, 1) := by decide +kernel
theorem dX4_init_17 : decode cX4_init 17 = .ok (.anewarray 7, 3) := by decide +kernel
theorem dX4_init_20 : decode cX4_init 20 = .ok (.putfield 16, 3) := by decide +kernel
theorem dX4_init_23 : decode cX4_init 23 = .ok (.iconst 0, 1) := by decide +kernel
theorem dX4_init_24 : decode cX4_init 24 = .ok (.istore_n 1, 1) := by decide +kernel
theorem dX4_init_25 : decode cX4_init 25 = .ok (.iload_n 1, 1) := by decide +kernel
theorem dX4_init_26 : decode cX4_init 26 = .ok (.iconst 3, 1) := by decide +kernel
theorem dX4_init_27 : decode cX4_init 27 = .ok (.if_icmp .ge 22, 3) := by decide +kernel
theorem dX4_init_30 : decode cX4_init 30 = .ok (.aload_n 0, 1) := by decide +kernel
theorem dX4_init_31 : decode cX4_init 31 = .ok (.getfield 16, 3) := by decide +kernel
theorem dX4_init_34 : decode cX4_init 34 = .ok (.iload_n 1, 1) := by decide +kernel
theorem dX4_init_35 : decode cX4_init 35 = .ok (.new 7, 3) := by decide +kernel
theorem dX4_init_38 : decode cX4_init 38 = .ok (.dup, 1) := by decide +kernel
theorem dX4_init_39 : decode cX4_init 39 = .ok (.invokespecial 9, 3) := by decide +kernel
theorem dX4_init_42 : decode cX4_init 42 = .ok (.aastore, 1) := by decide +kernel
theorem dX4_init_43 : decode cX4_init 43 = .ok (.iinc 1 1, 3) := by decide +kernel
theorem dX4_init_46 : decode cX4_init 46 = .ok (.goto (-21), 3) := by decide +kernel
theorem dX4_init_49 : decode cX4_init 49 = .ok (.aload_n 0, 1) := by decide +kernel
theorem dX4_init_50 : decode cX4_init 50 = .ok (.iconst 0, 1) := by decide +kernel
theorem dX4_init_51 : decode cX4_init 51 = .ok (.putfield 20, 3) := by decide +kernel
theorem dX4_init_54 : decode cX4_init 54 = .ok (.return_, 1) := by decide +kernel
set_option maxRecDepth 20000 in
theorem ggX4_addServer_X4_save : GoodIn wsX4_addServer wsX4_save := goodIn_r _ [9, 10, 11, 3, 12, 13, 14, 8, 15, 16, 17, 18, 19, 20, 21, 22, 23, 24, 25, 26, 27, 28, 29, 30, 31, 32, 33, 34, 35, 36, 37, 38, 39, 40, 41, 42, 43, 44, 45, 46, 47, 48, 49, 50, 51, 52, 53, 54, 55, 56, 57, 58, 59, 60, 61, 62, 63, 64, 65, 66, 67, 68, 69, 70, 71, 72, 73, 74, 75, 76, 77, 104, 105, 106, 107, 108, 109, 110, 111, 112, 113, 114, 115, 116, 117, 118, 119, 120, 121, 122, 123, 124, 125, 126, 127, 128, 129, 130, 131, 132, 133, 134, 135, 136, 137, 138] (by decide +kernel) (by decide +kernel)
set_option maxRecDepth 20000 in
theorem gX4_addServer_X4_save : GoodIn wsX4_addServer (wsV RX4 34 RX4 yX4_save wsX4_save) := goodIn_app (goodIn_of _ (by decide +kernel)) ggX4_addServer_X4_save
set_option maxRecDepth 20000 in
theorem ggX4_addServer_X3_openServer : GoodIn wsX4_addServer wsX3_openServer := goodIn_r _ [81, 25, 71, 72, 73, 19, 74, 75, 27, 76, 77, 82, 83, 84, 85, 26, 28, 86, 87, 88, 89, 90, 23, 91, 92, 93, 94, 95, 22, 96, 97, 98, 99, 100, 101, 102, 44, 103, 48, 49, 107, 108, 109, 110, 111, 112, 113, 114, 115, 116, 117, 118, 119, 120, 121, 122, 123, 124, 125, 126, 127, 128] (by decide +kernel) (by decide +kernel)
set_option maxRecDepth 20000 in
theorem gX4_addServer_X3_openServer : GoodIn wsX4_addServer (wsV RX4 37 RX3 yX3_openServer wsX3_openServer) := goodIn_app (goodIn_of _ (by decide +kernel)) ggX4_addServer_X3_openServer
theorem dX4_addServer_0 : decode cX4_addServer 0 = .ok (.aload_n 0, 1) := by decide +kernel
theorem dX4_addServer_1 : decode cX4_addServer 1 = .ok (.getfield 10, 3) := by decide +kernel
theorem dX4_addServer_4 : decode cX4_addServer 4 = .ok (.getfield 24, 3) := by decide +kernel
theorem dX4_addServer_7 : decode cX4_addServer 7 = .ok (.bipush 8, 2) := by decide +kernel
theorem dX4_addServer_9 : decode cX4_addServer 9 = .ok (.if_icmp .lt 13, 3) := by decide +kernel
theorem dX4_addServer_12 : decode cX4_addServer 12 = .ok (.new 27, 3) := by decide +kernel
theorem dX4_addServer_15 : decode cX4_addServer 15 = .ok (.dup, 1) := by decide +kernel
theorem dX4_addServer_16 : decode cX4_addServer 16 = .ok (.ldc 29, 2) := by decide +kernel
theorem dX4_addServer_18 : decode cX4_addServer 18 = .ok (.invokespecial 31, 3) := by decide +kernel
theorem dX4_addServer_21 : decode cX4_addServer 21 = .ok (.athrow, 1) := by decide +kernel
theorem dX4_addServer_22 : decode cX4_addServer 22 = .ok (.aload_n 0, 1) := by decide +kernel
theorem dX4_addServer_23 : decode cX4_addServer 23 = .ok (.invokevirtual 34, 3) := by decide +kernel
theorem dX4_addServer_26 : decode cX4_addServer 26 = .ok (.aload_n 0, 1) := by decide +kernel
theorem dX4_addServer_27 : decode cX4_addServer 27 = .ok (.getfield 10, 3) := by decide +kernel
theorem dX4_addServer_30 : decode cX4_addServer 30 = .ok (.invokevirtual 37, 3) := by decide +kernel
theorem dX4_addServer_33 : decode cX4_addServer 33 = .ok (.ireturn, 1) := by decide +kernel
set_option maxRecDepth 20000 in
theorem ggX4_addDispatcher_X4_requireRange : GoodIn wsX4_addDispatcher wsX4_requireRange := goodIn_ca (goodIn_r _ [8, 9, 10] (by decide +kernel) (by decide +kernel)) (goodIn_sub (fun _ h => List.mem_cons_of_mem _ (List.mem_append_right _ h)) (by decide +kernel))
set_option maxRecDepth 20000 in
theorem gX4_addDispatcher_X4_requireRange : GoodIn wsX4_addDispatcher (va_wsS RX4 41 yX4_requireRange wsX4_requireRange) := goodIn_app (goodIn_of _ (by decide +kernel)) ggX4_addDispatcher_X4_requireRange
set_option maxRecDepth 20000 in
theorem ggX4_addDispatcher_X4_save : GoodIn wsX4_addDispatcher wsX4_save := goodIn_r _ [14, 15, 16, 3, 17, 18, 19, 7, 20, 21, 22, 23, 24, 25, 26, 27, 28, 29, 30, 31, 32, 33, 34, 35, 36, 37, 38, 39, 40, 41, 42, 43, 44, 45, 46, 47, 48, 49, 50, 51, 52, 53, 54, 55, 56, 57, 58, 59, 60, 61, 62, 63, 64, 65, 66, 67, 68, 69, 70, 71, 72, 73, 74, 75, 76, 77, 78, 79, 80, 81, 82, 88, 89, 90, 91, 92, 93, 94, 95, 96, 97, 98, 99, 100, 101, 102, 103, 104, 105, 106, 107, 108, 109, 110, 111, 112, 113, 114, 115, 116, 117, 118, 119, 120, 121, 122] (by decide +kernel) (by decide +kernel)
set_option maxRecDepth 20000 in
theorem gX4_addDispatcher_X4_save : GoodIn wsX4_addDispatcher (wsV RX4 34 RX4 yX4_save wsX4_save) := goodIn_app (goodIn_of _ (by decide +kernel)) ggX4_addDispatcher_X4_save
set_option maxRecDepth 20000 in
theorem ggX4_addDispatcher_X3_openDispatcher : GoodIn wsX4_addDispatcher wsX3_openDispatcher := goodIn_r _ [86, 31, 33, 87, 91, 92, 93, 94, 95, 96, 97, 98, 99, 100, 101, 108, 109, 110, 111, 112] (by decide +kernel) (by decide +kernel)
set_option maxRecDepth 20000 in
theorem gX4_addDispatcher_X3_openDispatcher : GoodIn wsX4_addDispatcher (wsV RX4 50 RX3 yX3_openDispatcher wsX3_openDispatcher) := goodIn_app (goodIn_of _ (by decide +kernel)) ggX4_addDispatcher_X3_openDispatcher
theorem dX4_addDispatcher_0 : decode cX4_addDispatcher 0 = .ok (.iload_n 1, 1) := by decide +kernel
theorem dX4_addDispatcher_1 : decode cX4_addDispatcher 1 = .ok (.iconst 0, 1) := by decide +kernel
theorem dX4_addDispatcher_2 : decode cX4_addDispatcher 2 = .ok (.iconst 4, 1) := by decide +kernel
theorem dX4_addDispatcher_3 : decode cX4_addDispatcher 3 = .ok (.invokestatic 41, 3) := by decide +kernel
theorem dX4_addDispatcher_6 : decode cX4_addDispatcher 6 = .ok (.aload_n 0, 1) := by decide +kernel
theorem dX4_addDispatcher_7 : decode cX4_addDispatcher 7 = .ok (.getfield 10, 3) := by decide +kernel
theorem dX4_addDispatcher_10 : decode cX4_addDispatcher 10 = .ok (.getfield 45, 3) := by decide +kernel
theorem dX4_addDispatcher_13 : decode cX4_addDispatcher 13 = .ok (.iconst 4, 1) := by decide +kernel
theorem dX4_addDispatcher_14 : decode cX4_addDispatcher 14 = .ok (.if_icmp .lt 13, 3) := by decide +kernel
theorem dX4_addDispatcher_17 : decode cX4_addDispatcher 17 = .ok (.new 27, 3) := by decide +kernel
theorem dX4_addDispatcher_20 : decode cX4_addDispatcher 20 = .ok (.dup, 1) := by decide +kernel
theorem dX4_addDispatcher_21 : decode cX4_addDispatcher 21 = .ok (.ldc 48, 2) := by decide +kernel
theorem dX4_addDispatcher_23 : decode cX4_addDispatcher 23 = .ok (.invokespecial 31, 3) := by decide +kernel
theorem dX4_addDispatcher_26 : decode cX4_addDispatcher 26 = .ok (.athrow, 1) := by decide +kernel
theorem dX4_addDispatcher_27 : decode cX4_addDispatcher 27 = .ok (.aload_n 0, 1) := by decide +kernel
theorem dX4_addDispatcher_28 : decode cX4_addDispatcher 28 = .ok (.invokevirtual 34, 3) := by decide +kernel
theorem dX4_addDispatcher_31 : decode cX4_addDispatcher 31 = .ok (.aload_n 0, 1) := by decide +kernel
theorem dX4_addDispatcher_32 : decode cX4_addDispatcher 32 = .ok (.getfield 10, 3) := by decide +kernel
theorem dX4_addDispatcher_35 : decode cX4_addDispatcher 35 = .ok (.iload_n 1, 1) := by decide +kernel
theorem dX4_addDispatcher_36 : decode cX4_addDispatcher 36 = .ok (.invokevirtual 50, 3) := by decide +kernel
theorem dX4_addDispatcher_39 : decode cX4_addDispatcher 39 = .ok (.ireturn, 1) := by decide +kernel
set_option maxRecDepth 20000 in
theorem ggX4_setPolicy_X4_requireDispatcher : GoodIn wsX4_setPolicy wsX4_requireDispatcher := goodIn_ca (goodIn_r _ [8, 9, 10, 1, 11, 87, 88, 89, 90, 91, 92, 93, 94, 95, 96, 97, 98, 99, 100] (by decide +kernel) (by decide +kernel)) (goodIn_sub (fun _ h => List.mem_cons_of_mem _ (List.mem_append_right _ h)) (by decide +kernel))
set_option maxRecDepth 20000 in
theorem gX4_setPolicy_X4_requireDispatcher : GoodIn wsX4_setPolicy (wsV RX4 54 RX4 yX4_requireDispatcher wsX4_requireDispatcher) := goodIn_app (goodIn_of _ (by decide +kernel)) ggX4_setPolicy_X4_requireDispatcher
set_option maxRecDepth 20000 in
theorem ggX4_setPolicy_X4_requireRange : GoodIn wsX4_setPolicy wsX4_requireRange := goodIn_ca (goodIn_r _ [14, 9, 10] (by decide +kernel) (by decide +kernel)) (goodIn_sub (fun _ h => List.mem_cons_of_mem _ (List.mem_append_right _ h)) (by decide +kernel))
set_option maxRecDepth 20000 in
theorem gX4_setPolicy_X4_requireRange : GoodIn wsX4_setPolicy (va_wsS RX4 41 yX4_requireRange wsX4_requireRange) := goodIn_app (goodIn_of _ (by decide +kernel)) ggX4_setPolicy_X4_requireRange
set_option maxRecDepth 20000 in
theorem ggX4_setPolicy_X4_save : GoodIn wsX4_setPolicy wsX4_save := goodIn_r _ [18, 19, 20, 1, 21, 22, 23, 7, 24, 25, 26, 27, 28, 29, 30, 31, 32, 33, 34, 35, 36, 37, 38, 39, 40, 41, 42, 43, 44, 45, 46, 47, 48, 49, 50, 51, 52, 53, 54, 55, 56, 57, 58, 59, 60, 61, 62, 63, 64, 65, 66, 67, 68, 69, 70, 71, 72, 73, 74, 75, 76, 77, 78, 79, 80, 81, 82, 83, 84, 85, 86, 87, 88, 89, 90, 91, 92, 93, 94, 95, 96, 97, 98, 99, 100, 106, 107, 108, 109, 110, 111, 101, 102, 103, 104, 105, 112, 113, 114, 115, 116, 117, 118, 119, 120, 121] (by decide +kernel) (by decide +kernel)
set_option maxRecDepth 20000 in
theorem gX4_setPolicy_X4_save : GoodIn wsX4_setPolicy (wsV RX4 34 RX4 yX4_save wsX4_save) := goodIn_app (goodIn_of _ (by decide +kernel)) ggX4_setPolicy_X4_save
theorem dX4_setPolicy_0 : decode cX4_setPolicy 0 = .ok (.aload_n 0, 1) := by decide +kernel
theorem dX4_setPolicy_1 : decode cX4_setPolicy 1 = .ok (.iload_n 1, 1) := by decide +kernel
theorem dX4_setPolicy_2 : decode cX4_setPolicy 2 = .ok (.invokevirtual 54, 3) := by decide +kernel
theorem dX4_setPolicy_5 : decode cX4_setPolicy 5 = .ok (.iload_n 2, 1) := by decide +kernel
theorem dX4_setPolicy_6 : decode cX4_setPolicy 6 = .ok (.iconst 0, 1) := by decide +kernel
theorem dX4_setPolicy_7 : decode cX4_setPolicy 7 = .ok (.iconst 4, 1) := by decide +kernel
theorem dX4_setPolicy_8 : decode cX4_setPolicy 8 = .ok (.invokestatic 41, 3) := by decide +kernel
theorem dX4_setPolicy_11 : decode cX4_setPolicy 11 = .ok (.aload_n 0, 1) := by decide +kernel
theorem dX4_setPolicy_12 : decode cX4_setPolicy 12 = .ok (.invokevirtual 34, 3) := by decide +kernel
theorem dX4_setPolicy_15 : decode cX4_setPolicy 15 = .ok (.aload_n 0, 1) := by decide +kernel
theorem dX4_setPolicy_16 : decode cX4_setPolicy 16 = .ok (.getfield 10, 3) := by decide +kernel
theorem dX4_setPolicy_19 : decode cX4_setPolicy 19 = .ok (.getfield 58, 3) := by decide +kernel
theorem dX4_setPolicy_22 : decode cX4_setPolicy 22 = .ok (.iload_n 1, 1) := by decide +kernel
theorem dX4_setPolicy_23 : decode cX4_setPolicy 23 = .ok (.aaload, 1) := by decide +kernel
theorem dX4_setPolicy_24 : decode cX4_setPolicy 24 = .ok (.getfield 62, 3) := by decide +kernel
theorem dX4_setPolicy_27 : decode cX4_setPolicy 27 = .ok (.istore_n 3, 1) := by decide +kernel
theorem dX4_setPolicy_28 : decode cX4_setPolicy 28 = .ok (.aload_n 0, 1) := by decide +kernel
theorem dX4_setPolicy_29 : decode cX4_setPolicy 29 = .ok (.getfield 10, 3) := by decide +kernel
theorem dX4_setPolicy_32 : decode cX4_setPolicy 32 = .ok (.getfield 58, 3) := by decide +kernel
theorem dX4_setPolicy_35 : decode cX4_setPolicy 35 = .ok (.iload_n 1, 1) := by decide +kernel
theorem dX4_setPolicy_36 : decode cX4_setPolicy 36 = .ok (.aaload, 1) := by decide +kernel
theorem dX4_setPolicy_37 : decode cX4_setPolicy 37 = .ok (.iload_n 2, 1) := by decide +kernel
theorem dX4_setPolicy_38 : decode cX4_setPolicy 38 = .ok (.putfield 62, 3) := by decide +kernel
theorem dX4_setPolicy_41 : decode cX4_setPolicy 41 = .ok (.iload_n 3, 1) := by decide +kernel
theorem dX4_setPolicy_42 : decode cX4_setPolicy 42 = .ok (.ireturn, 1) := by decide +kernel
set_option maxRecDepth 20000 in
theorem ggX4_setJoinMode_X4_requireRange : GoodIn wsX4_setJoinMode wsX4_requireRange := goodIn_ca (goodIn_r _ [6, 7, 8] (by decide +kernel) (by decide +kernel)) (goodIn_sub (fun _ h => List.mem_cons_of_mem _ (List.mem_append_right _ h)) (by decide +kernel))
set_option maxRecDepth 20000 in
theorem gX4_setJoinMode_X4_requireRange : GoodIn wsX4_setJoinMode (va_wsS RX4 41 yX4_requireRange wsX4_requireRange) := goodIn_app (goodIn_of _ (by decide +kernel)) ggX4_setJoinMode_X4_requireRange
set_option maxRecDepth 20000 in
theorem ggX4_setJoinMode_X4_save : GoodIn wsX4_setJoinMode wsX4_save := goodIn_r _ [12, 13, 14, 1, 15, 16, 17, 5, 18, 19, 20, 21, 22, 23, 24, 25, 26, 27, 28, 29, 30, 31, 32, 33, 34, 35, 36, 37, 38, 39, 40, 41, 42, 43, 44, 45, 46, 47, 48, 49, 50, 51, 52, 53, 54, 55, 56, 57, 58, 59, 60, 61, 62, 63, 64, 65, 66, 67, 68, 69, 70, 71, 72, 73, 74, 75, 76, 77, 78, 79, 80, 81, 82, 83, 84, 85, 86, 87, 88, 89, 90, 91, 92, 93, 94, 95, 96, 97, 98, 99, 100, 101, 102, 103, 104, 105, 106, 107, 108, 109, 110, 111, 112, 113, 114, 115] (by decide +kernel) (by decide +kernel)
set_option maxRecDepth 20000 in
theorem gX4_setJoinMode_X4_save : GoodIn wsX4_setJoinMode (wsV RX4 34 RX4 yX4_save wsX4_save) := goodIn_app (goodIn_of _ (by decide +kernel)) ggX4_setJoinMode_X4_save
theorem dX4_setJoinMode_0 : decode cX4_setJoinMode 0 = .ok (.iload_n 1, 1) := by decide +kernel
theorem dX4_setJoinMode_1 : decode cX4_setJoinMode 1 = .ok (.iconst 0, 1) := by decide +kernel
theorem dX4_setJoinMode_2 : decode cX4_setJoinMode 2 = .ok (.iconst 2, 1) := by decide +kernel
theorem dX4_setJoinMode_3 : decode cX4_setJoinMode 3 = .ok (.invokestatic 41, 3) := by decide +kernel
theorem dX4_setJoinMode_6 : decode cX4_setJoinMode 6 = .ok (.aload_n 0, 1) := by decide +kernel
theorem dX4_setJoinMode_7 : decode cX4_setJoinMode 7 = .ok (.invokevirtual 34, 3) := by decide +kernel
theorem dX4_setJoinMode_10 : decode cX4_setJoinMode 10 = .ok (.aload_n 0, 1) := by decide +kernel
theorem dX4_setJoinMode_11 : decode cX4_setJoinMode 11 = .ok (.getfield 10, 3) := by decide +kernel
theorem dX4_setJoinMode_14 : decode cX4_setJoinMode 14 = .ok (.getfield 67, 3) := by decide +kernel
theorem dX4_setJoinMode_17 : decode cX4_setJoinMode 17 = .ok (.istore_n 2, 1) := by decide +kernel
theorem dX4_setJoinMode_18 : decode cX4_setJoinMode 18 = .ok (.aload_n 0, 1) := by decide +kernel
theorem dX4_setJoinMode_19 : decode cX4_setJoinMode 19 = .ok (.getfield 10, 3) := by decide +kernel
theorem dX4_setJoinMode_22 : decode cX4_setJoinMode 22 = .ok (.iload_n 1, 1) := by decide +kernel
theorem dX4_setJoinMode_23 : decode cX4_setJoinMode 23 = .ok (.putfield 67, 3) := by decide +kernel
theorem dX4_setJoinMode_26 : decode cX4_setJoinMode 26 = .ok (.iload_n 2, 1) := by decide +kernel
theorem dX4_setJoinMode_27 : decode cX4_setJoinMode 27 = .ok (.ireturn, 1) := by decide +kernel
set_option maxRecDepth 20000 in
theorem ggX4_setReportPeriod_X4_requireRange : GoodIn wsX4_setReportPeriod wsX4_requireRange := goodIn_ca (goodIn_r _ [6, 7, 8] (by decide +kernel) (by decide +kernel)) (goodIn_sub (fun _ h => List.mem_cons_of_mem _ (List.mem_append_right _ h)) (by decide +kernel))
set_option maxRecDepth 20000 in
theorem gX4_setReportPeriod_X4_requireRange : GoodIn wsX4_setReportPeriod (va_wsS RX4 41 yX4_requireRange wsX4_requireRange) := goodIn_app (goodIn_of _ (by decide +kernel)) ggX4_setReportPeriod_X4_requireRange
set_option maxRecDepth 20000 in
theorem ggX4_setReportPeriod_X4_save : GoodIn wsX4_setReportPeriod wsX4_save := goodIn_r _ [12, 13, 14, 1, 15, 16, 17, 5, 18, 19, 20, 21, 22, 23, 24, 25, 26, 27, 28, 29, 30, 31, 32, 33, 34, 35, 36, 37, 38, 39, 40, 41, 42, 43, 44, 45, 46, 47, 48, 49, 50, 51, 52, 53, 54, 55, 56, 57, 58, 59, 60, 61, 62, 63, 64, 65, 66, 67, 68, 69, 70, 71, 72, 73, 74, 75, 76, 77, 78, 79, 80, 81, 82, 83, 84, 85, 86, 87, 88, 89, 90, 91, 92, 93, 94, 95, 96, 97, 98, 99, 100, 101, 102, 103, 104, 105, 106, 107, 108, 109, 110, 111, 112, 113, 114, 115] (by decide +kernel) (by decide +kernel)
set_option maxRecDepth 20000 in
theorem gX4_setReportPeriod_X4_save : GoodIn wsX4_setReportPeriod (wsV RX4 34 RX4 yX4_save wsX4_save) := goodIn_app (goodIn_of _ (by decide +kernel)) ggX4_setReportPeriod_X4_save
theorem dX4_setReportPeriod_0 : decode cX4_setReportPeriod 0 = .ok (.iload_n 1, 1) := by decide +kernel
theorem dX4_setReportPeriod_1 : decode cX4_setReportPeriod 1 = .ok (.iconst 1, 1) := by decide +kernel
theorem dX4_setReportPeriod_2 : decode cX4_setReportPeriod 2 = .ok (.bipush 100, 2) := by decide +kernel
theorem dX4_setReportPeriod_4 : decode cX4_setReportPeriod 4 = .ok (.invokestatic 41, 3) := by decide +kernel
theorem dX4_setReportPeriod_7 : decode cX4_setReportPeriod 7 = .ok (.aload_n 0, 1) := by decide +kernel
theorem dX4_setReportPeriod_8 : decode cX4_setReportPeriod 8 = .ok (.invokevirtual 34, 3) := by decide +kernel
theorem dX4_setReportPeriod_11 : decode cX4_setReportPeriod 11 = .ok (.aload_n 0, 1) := by decide +kernel
theorem dX4_setReportPeriod_12 : decode cX4_setReportPeriod 12 = .ok (.getfield 10, 3) := by decide +kernel
theorem dX4_setReportPeriod_15 : decode cX4_setReportPeriod 15 = .ok (.getfield 70, 3) := by decide +kernel
theorem dX4_setReportPeriod_18 : decode cX4_setReportPeriod 18 = .ok (.istore_n 2, 1) := by decide +kernel
theorem dX4_setReportPeriod_19 : decode cX4_setReportPeriod 19 = .ok (.aload_n 0, 1) := by decide +kernel
theorem dX4_setReportPeriod_20 : decode cX4_setReportPeriod 20 = .ok (.getfield 10, 3) := by decide +kernel
theorem dX4_setReportPeriod_23 : decode cX4_setReportPeriod 23 = .ok (.iload_n 1, 1) := by decide +kernel
theorem dX4_setReportPeriod_24 : decode cX4_setReportPeriod 24 = .ok (.putfield 70, 3) := by decide +kernel
theorem dX4_setReportPeriod_27 : decode cX4_setReportPeriod 27 = .ok (.iload_n 2, 1) := by decide +kernel
theorem dX4_setReportPeriod_28 : decode cX4_setReportPeriod 28 = .ok (.ireturn, 1) := by decide +kernel
set_option maxRecDepth 20000 in
theorem ggX4_setRandom_X4_requireRange : GoodIn wsX4_setRandom wsX4_requireRange := goodIn_ca (goodIn_r _ [7, 8, 9] (by decide +kernel) (by decide +kernel)) (goodIn_sub (fun _ h => List.mem_cons_of_mem _ (List.mem_append_right _ h)) (by decide +kernel))
set_option maxRecDepth 20000 in
theorem gX4_setRandom_X4_requireRange : GoodIn wsX4_setRandom (va_wsS RX4 41 yX4_requireRange wsX4_requireRange) := goodIn_app (goodIn_of _ (by decide +kernel)) ggX4_setRandom_X4_requireRange
set_option maxRecDepth 20000 in
theorem ggX4_setRandom_X4_save : GoodIn wsX4_setRandom wsX4_save := goodIn_r _ [13, 14, 15, 2, 16, 17, 18, 6, 19, 20, 21, 22, 23, 24, 25, 26, 27, 28, 29, 30, 31, 32, 33, 34, 35, 36, 37, 38, 39, 40, 41, 42, 43, 44, 45, 46, 47, 48, 49, 50, 51, 52, 53, 54, 55, 56, 57, 58, 59, 60, 61, 62, 63, 64, 65, 66, 67, 68, 69, 70, 71, 72, 73, 74, 75, 76, 77, 78, 79, 80, 81, 82, 83, 84, 85, 86, 87, 88, 89, 90, 91, 92, 93, 94, 95, 96, 97, 98, 99, 100, 101, 102, 103, 104, 105, 106, 107, 108, 109, 110, 111, 112, 113, 114, 115, 116] (by decide +kernel) (by decide +kernel)
set_option maxRecDepth 20000 in
theorem gX4_setRandom_X4_save : GoodIn wsX4_setRandom (wsV RX4 34 RX4 yX4_save wsX4_save) := goodIn_app (goodIn_of _ (by decide +kernel)) ggX4_setRandom_X4_save
theorem dX4_setRandom_0 : decode cX4_setRandom 0 = .ok (.iload_n 1, 1) := by decide +kernel
theorem dX4_setRandom_1 : decode cX4_setRandom 1 = .ok (.iconst 0, 1) := by decide +kernel
theorem dX4_setRandom_2 : decode cX4_setRandom 2 = .ok (.ldc 73, 2) := by decide +kernel
theorem dX4_setRandom_4 : decode cX4_setRandom 4 = .ok (.invokestatic 41, 3) := by decide +kernel
theorem dX4_setRandom_7 : decode cX4_setRandom 7 = .ok (.aload_n 0, 1) := by decide +kernel
theorem dX4_setRandom_8 : decode cX4_setRandom 8 = .ok (.invokevirtual 34, 3) := by decide +kernel
theorem dX4_setRandom_11 : decode cX4_setRandom 11 = .ok (.aload_n 0, 1) := by decide +kernel
theorem dX4_setRandom_12 : decode cX4_setRandom 12 = .ok (.getfield 10, 3) := by decide +kernel
theorem dX4_setRandom_15 : decode cX4_setRandom 15 = .ok (.iload_n 1, 1) := by decide +kernel
theorem dX4_setRandom_16 : decode cX4_setRandom 16 = .ok (.i2l, 1) := by decide +kernel
theorem dX4_setRandom_17 : decode cX4_setRandom 17 = .ok (.putfield 74, 3) := by decide +kernel
theorem dX4_setRandom_20 : decode cX4_setRandom 20 = .ok (.iconst 1, 1) := by decide +kernel
theorem dX4_setRandom_21 : decode cX4_setRandom 21 = .ok (.ireturn, 1) := by decide +kernel
set_option maxRecDepth 20000 in
theorem ggX4_setUp_X4_requireServer : GoodIn wsX4_setUp wsX4_requireServer := goodIn_ca (goodIn_r _ [6, 7, 8, 1, 9, 117, 118, 119, 120, 121, 122, 123, 124, 125, 126, 127, 128, 129, 130] (by decide +kernel) (by decide +kernel)) (goodIn_sub (fun _ h => List.mem_cons_of_mem _ (List.mem_append_right _ h)) (by decide +kernel))
set_option maxRecDepth 20000 in
theorem gX4_setUp_X4_requireServer : GoodIn wsX4_setUp (wsV RX4 78 RX4 yX4_requireServer wsX4_requireServer) := goodIn_app (goodIn_of _ (by decide +kernel)) ggX4_setUp_X4_requireServer
set_option maxRecDepth 20000 in
theorem ggX4_setUp_X4_save : GoodIn wsX4_setUp wsX4_save := goodIn_r _ [13, 14, 15, 1, 16, 17, 18, 5, 19, 20, 21, 22, 23, 24, 25, 26, 27, 28, 29, 30, 31, 32, 33, 34, 35, 36, 37, 38, 39, 40, 41, 42, 43, 44, 45, 46, 47, 48, 49, 50, 51, 52, 53, 54, 55, 56, 57, 58, 59, 60, 61, 62, 63, 64, 65, 66, 67, 68, 69, 70, 71, 72, 73, 74, 75, 76, 77, 78, 79, 80, 81, 117, 118, 119, 120, 121, 122, 123, 124, 125, 126, 127, 128, 129, 130, 131, 132, 133, 134, 135, 136, 137, 138, 139, 140, 141, 142, 143, 144, 145, 146, 147, 148, 149, 150, 151] (by decide +kernel) (by decide +kernel)
set_option maxRecDepth 20000 in
theorem gX4_setUp_X4_save : GoodIn wsX4_setUp (wsV RX4 34 RX4 yX4_save wsX4_save) := goodIn_app (goodIn_of _ (by decide +kernel)) ggX4_setUp_X4_save
set_option maxRecDepth 20000 in
theorem ggX4_setUp_X3_switchServer : GoodIn wsX4_setUp wsX3_switchServer := goodIn_r _ [85, 31, 80, 86, 75, 76, 77, 23, 78, 79, 29, 81, 87, 88, 89, 90, 91, 32, 92, 93, 94, 48, 95, 52, 53, 96, 97, 98, 99, 30, 100, 101, 102, 103, 27, 104, 105, 106, 107, 108, 26, 109, 110, 111, 112, 113, 114, 115, 116, 120, 121, 122, 123, 124, 125, 126, 127, 128, 129, 130, 131, 132, 133, 134, 135, 136, 137, 138, 139, 140, 141] (by decide +kernel) (by decide +kernel)
set_option maxRecDepth 20000 in
theorem gX4_setUp_X3_switchServer : GoodIn wsX4_setUp (wsV RX4 81 RX3 yX3_switchServer wsX3_switchServer) := goodIn_app (goodIn_of _ (by decide +kernel)) ggX4_setUp_X3_switchServer
theorem dX4_setUp_0 : decode cX4_setUp 0 = .ok (.aload_n 0, 1) := by decide +kernel
theorem dX4_setUp_1 : decode cX4_setUp 1 = .ok (.iload_n 1, 1) := by decide +kernel
theorem dX4_setUp_2 : decode cX4_setUp 2 = .ok (.invokevirtual 78, 3) := by decide +kernel
theorem dX4_setUp_5 : decode cX4_setUp 5 = .ok (.aload_n 0, 1) := by decide +kernel
theorem dX4_setUp_6 : decode cX4_setUp 6 = .ok (.invokevirtual 34, 3) := by decide +kernel
theorem dX4_setUp_9 : decode cX4_setUp 9 = .ok (.aload_n 0, 1) := by decide +kernel
theorem dX4_setUp_10 : decode cX4_setUp 10 = .ok (.getfield 10, 3) := by decide +kernel
theorem dX4_setUp_13 : decode cX4_setUp 13 = .ok (.iload_n 1, 1) := by decide +kernel
theorem dX4_setUp_14 : decode cX4_setUp 14 = .ok (.iload_n 2, 1) := by decide +kernel
theorem dX4_setUp_15 : decode cX4_setUp 15 = .ok (.invokevirtual 81, 3) := by decide +kernel
theorem dX4_setUp_18 : decode cX4_setUp 18 = .ok (.ireturn, 1) := by decide +kernel
set_option maxRecDepth 20000 in
theorem ggX4_submit_X4_requireDispatcher : GoodIn wsX4_submit wsX4_requireDispatcher := goodIn_ca (goodIn_r _ [10, 11, 12, 3, 13, 166, 167, 168, 169, 170, 171, 172, 173, 174, 175, 176, 177, 178, 179] (by decide +kernel) (by decide +kernel)) (goodIn_sub (fun _ h => List.mem_cons_of_mem _ (List.mem_append_right _ h)) (by decide +kernel))
set_option maxRecDepth 20000 in
theorem gX4_submit_X4_requireDispatcher : GoodIn wsX4_submit (wsV RX4 54 RX4 yX4_requireDispatcher wsX4_requireDispatcher) := goodIn_app (goodIn_of _ (by decide +kernel)) ggX4_submit_X4_requireDispatcher
set_option maxRecDepth 20000 in
theorem ggX4_submit_X4_requireRange : GoodIn wsX4_submit wsX4_requireRange := goodIn_ca (goodIn_r _ [16, 11, 12] (by decide +kernel) (by decide +kernel)) (goodIn_sub (fun _ h => List.mem_cons_of_mem _ (List.mem_append_right _ h)) (by decide +kernel))
set_option maxRecDepth 20000 in
theorem gX4_submit_X4_requireRange : GoodIn wsX4_submit (va_wsS RX4 41 yX4_requireRange wsX4_requireRange) := goodIn_app (goodIn_of _ (by decide +kernel)) ggX4_submit_X4_requireRange
set_option maxRecDepth 20000 in
theorem ggX4_submit_X4_requireServerUp : GoodIn wsX4_submit wsX4_requireServerUp := goodIn_ca (goodIn_r _ [20, 1, 2, 3, 21, 166, 167, 168, 169, 170, 171, 172, 173, 174, 175, 176, 177, 178, 179] (by decide +kernel) (by decide +kernel)) (goodIn_sub (fun _ h => List.mem_cons_of_mem _ (List.mem_append_left _ (List.mem_append_right _ h))) (by decide +kernel))
set_option maxRecDepth 20000 in
theorem gX4_submit_X4_requireServerUp : GoodIn wsX4_submit (wsV RX4 85 RX4 yX4_requireServerUp wsX4_requireServerUp) := goodIn_app (goodIn_of _ (by decide +kernel)) ggX4_submit_X4_requireServerUp
set_option maxRecDepth 20000 in
theorem ggX4_submit_X4_save : GoodIn wsX4_submit wsX4_save := goodIn_r _ [25, 26, 27, 3, 28, 29, 30, 9, 31, 32, 33, 34, 35, 36, 37, 38, 39, 40, 41, 42, 43, 44, 45, 46, 47, 48, 49, 50, 51, 52, 53, 54, 55, 56, 57, 58, 59, 60, 61, 62, 63, 64, 65, 66, 67, 68, 69, 70, 71, 72, 73, 74, 75, 76, 77, 78, 79, 80, 81, 82, 83, 84, 85, 86, 87, 88, 89, 90, 91, 92, 93, 166, 167, 168, 169, 170, 171, 172, 173, 174, 175, 176, 177, 178, 179, 190, 191, 192, 193, 194, 195, 196, 197, 198, 199, 200, 180, 181, 182, 183, 184, 185, 186, 187, 188, 189] (by decide +kernel) (by decide +kernel)
set_option maxRecDepth 20000 in
theorem gX4_submit_X4_save : GoodIn wsX4_submit (wsV RX4 34 RX4 yX4_save wsX4_save) := goodIn_app (goodIn_of _ (by decide +kernel)) ggX4_submit_X4_save
set_option maxRecDepth 20000 in
theorem ggX4_submit_X3_dispatch : GoodIn wsX4_submit wsX3_dispatch := goodIn_r _ [97, 44, 43, 98, 45, 99, 100, 101, 102, 35, 103, 104, 105, 106, 107, 108, 109, 110, 111, 112, 113, 114, 115, 116, 91, 93, 117, 118, 119, 120, 121, 122, 123, 124, 125, 126, 127, 128, 38, 129, 130, 131, 132, 133, 134, 135, 136, 41, 137, 138, 139, 49, 140, 51, 52, 141, 142, 143, 144, 145, 146, 147, 148, 60, 149, 64, 65, 150, 151, 152, 153, 37, 154, 155, 156, 157, 158, 159, 160, 74, 161, 76, 81, 83, 84, 85, 86, 162, 163, 164, 165, 79, 78, 169, 170, 171, 172, 173, 174, 175, 176, 177, 178, 179, 190, 191, 192, 193, 194, 195, 180, 181, 182, 183, 184, 185, 186, 187, 188, 189, 196, 197, 198, 199, 200] (by decide +kernel) (by decide +kernel)
set_option maxRecDepth 20000 in
theorem gX4_submit_X3_dispatch : GoodIn wsX4_submit (wsV RX4 99 RX3 yX3_dispatch wsX3_dispatch) := goodIn_app (goodIn_of _ (by decide +kernel)) ggX4_submit_X3_dispatch
theorem dX4_submit_0 : decode cX4_submit 0 = .ok (.aload_n 0, 1) := by decide +kernel
theorem dX4_submit_1 : decode cX4_submit 1 = .ok (.iload_n 1, 1) := by decide +kernel
theorem dX4_submit_2 : decode cX4_submit 2 = .ok (.invokevirtual 54, 3) := by decide +kernel
theorem dX4_submit_5 : decode cX4_submit 5 = .ok (.iload_n 2, 1) := by decide +kernel
theorem dX4_submit_6 : decode cX4_submit 6 = .ok (.iconst 1, 1) := by decide +kernel
theorem dX4_submit_7 : decode cX4_submit 7 = .ok (.bipush 20, 2) := by decide +kernel
theorem dX4_submit_9 : decode cX4_submit 9 = .ok (.invokestatic 41, 3) := by decide +kernel
theorem dX4_submit_12 : decode cX4_submit 12 = .ok (.aload_n 0, 1) := by decide +kernel
theorem dX4_submit_13 : decode cX4_submit 13 = .ok (.invokevirtual 85, 3) := by decide +kernel
theorem dX4_submit_16 : decode cX4_submit 16 = .ok (.aload_n 0, 1) := by decide +kernel
theorem dX4_submit_17 : decode cX4_submit 17 = .ok (.getfield 10, 3) := by decide +kernel
theorem dX4_submit_20 : decode cX4_submit 20 = .ok (.getfield 88, 3) := by decide +kernel
theorem dX4_submit_23 : decode cX4_submit 23 = .ok (.getfield 92, 3) := by decide +kernel
theorem dX4_submit_26 : decode cX4_submit 26 = .ok (.sipush 200, 3) := by decide +kernel
theorem dX4_submit_29 : decode cX4_submit 29 = .ok (.if_icmp .lt 13, 3) := by decide +kernel
theorem dX4_submit_32 : decode cX4_submit 32 = .ok (.new 27, 3) := by decide +kernel
theorem dX4_submit_35 : decode cX4_submit 35 = .ok (.dup, 1) := by decide +kernel
theorem dX4_submit_36 : decode cX4_submit 36 = .ok (.ldc 97, 2) := by decide +kernel
theorem dX4_submit_38 : decode cX4_submit 38 = .ok (.invokespecial 31, 3) := by decide +kernel
theorem dX4_submit_41 : decode cX4_submit 41 = .ok (.athrow, 1) := by decide +kernel
theorem dX4_submit_42 : decode cX4_submit 42 = .ok (.aload_n 0, 1) := by decide +kernel
theorem dX4_submit_43 : decode cX4_submit 43 = .ok (.invokevirtual 34, 3) := by decide +kernel
theorem dX4_submit_46 : decode cX4_submit 46 = .ok (.aload_n 0, 1) := by decide +kernel
theorem dX4_submit_47 : decode cX4_submit 47 = .ok (.getfield 10, 3) := by decide +kernel
theorem dX4_submit_50 : decode cX4_submit 50 = .ok (.iload_n 1, 1) := by decide +kernel
theorem dX4_submit_51 : decode cX4_submit 51 = .ok (.iload_n 2, 1) := by decide +kernel
theorem dX4_submit_52 : decode cX4_submit 52 = .ok (.invokevirtual 99, 3) := by decide +kernel
theorem dX4_submit_55 : decode cX4_submit 55 = .ok (.ireturn, 1) := by decide +kernel
set_option maxRecDepth 20000 in
theorem ggX4_tick_X4_requireRange : GoodIn wsX4_tick wsX4_requireRange := goodIn_ca (goodIn_r _ [7, 8, 9] (by decide +kernel) (by decide +kernel)) (goodIn_sub (fun _ h => List.mem_cons_of_mem _ (List.mem_append_right _ h)) (by decide +kernel))
set_option maxRecDepth 20000 in
theorem gX4_tick_X4_requireRange : GoodIn wsX4_tick (va_wsS RX4 41 yX4_requireRange wsX4_requireRange) := goodIn_app (goodIn_of _ (by decide +kernel)) ggX4_tick_X4_requireRange
set_option maxRecDepth 20000 in
theorem ggX4_tick_X4_save : GoodIn wsX4_tick wsX4_save := goodIn_r _ [13, 14, 15, 1, 16, 17, 18, 6, 19, 20, 21, 22, 23, 24, 25, 26, 27, 28, 29, 30, 31, 32, 33, 34, 35, 36, 37, 38, 39, 40, 41, 42, 43, 44, 45, 46, 47, 48, 49, 50, 51, 52, 53, 54, 55, 56, 57, 58, 59, 60, 61, 62, 63, 64, 65, 66, 67, 68, 69, 70, 71, 72, 73, 74, 75, 76, 77, 78, 79, 80, 81, 136, 137, 138, 139, 140, 141, 142, 143, 144, 145, 146, 147, 148, 149, 160, 161, 162, 163, 164, 165, 166, 167, 168, 169, 170, 150, 151, 152, 153, 154, 155, 156, 157, 158, 159] (by decide +kernel) (by decide +kernel)
set_option maxRecDepth 20000 in
theorem gX4_tick_X4_save : GoodIn wsX4_tick (wsV RX4 34 RX4 yX4_save wsX4_save) := goodIn_app (goodIn_of _ (by decide +kernel)) ggX4_tick_X4_save
set_option maxRecDepth 20000 in
theorem ggX4_tick_X3_passTick : GoodIn wsX4_tick wsX3_passTick := goodIn_r _ [85, 25, 29, 28, 86, 87, 88, 23, 89, 31, 90, 91, 33, 92, 93, 94, 95, 96, 97, 98, 99, 100, 101, 102, 103, 62, 104, 73, 72, 67, 66, 105, 106, 107, 37, 108, 39, 40, 109, 110, 111, 112, 30, 32, 113, 114, 115, 116, 117, 27, 118, 119, 120, 121, 122, 26, 123, 124, 125, 126, 127, 128, 129, 48, 130, 52, 53, 131, 132, 133, 134, 135, 139, 140, 141, 142, 143, 144, 145, 146, 147, 148, 149, 160, 161, 162, 163, 164, 165, 150, 151, 152, 153, 154, 155, 156, 157, 158, 159, 166, 167, 168, 169, 170] (by decide +kernel) (by decide +kernel)
set_option maxRecDepth 20000 in
theorem gX4_tick_X3_passTick : GoodIn wsX4_tick (wsV RX4 106 RX3 yX3_passTick wsX3_passTick) := goodIn_app (goodIn_of _ (by decide +kernel)) ggX4_tick_X3_passTick
theorem dX4_tick_0 : decode cX4_tick 0 = .ok (.iload_n 1, 1) := by decide +kernel
theorem dX4_tick_1 : decode cX4_tick 1 = .ok (.iconst 0, 1) := by decide +kernel
theorem dX4_tick_2 : decode cX4_tick 2 = .ok (.sipush 500, 3) := by decide +kernel
theorem dX4_tick_5 : decode cX4_tick 5 = .ok (.invokestatic 41, 3) := by decide +kernel
theorem dX4_tick_8 : decode cX4_tick 8 = .ok (.aload_n 0, 1) := by decide +kernel
theorem dX4_tick_9 : decode cX4_tick 9 = .ok (.invokevirtual 34, 3) := by decide +kernel
theorem dX4_tick_12 : decode cX4_tick 12 = .ok (.aload_n 0, 1) := by decide +kernel
theorem dX4_tick_13 : decode cX4_tick 13 = .ok (.getfield 10, 3) := by decide +kernel
theorem dX4_tick_16 : decode cX4_tick 16 = .ok (.getfield 88, 3) := by decide +kernel
theorem dX4_tick_19 : decode cX4_tick 19 = .ok (.getfield 103, 3) := by decide +kernel
theorem dX4_tick_22 : decode cX4_tick 22 = .ok (.istore_n 2, 1) := by decide +kernel
theorem dX4_tick_23 : decode cX4_tick 23 = .ok (.iconst 0, 1) := by decide +kernel
theorem dX4_tick_24 : decode cX4_tick 24 = .ok (.istore_n 3, 1) := by decide +kernel
theorem dX4_tick_25 : decode cX4_tick 25 = .ok (.iload_n 3, 1) := by decide +kernel
theorem dX4_tick_26 : decode cX4_tick 26 = .ok (.iload_n 1, 1) := by decide +kernel
theorem dX4_tick_27 : decode cX4_tick 27 = .ok (.if_icmp .ge 16, 3) := by decide +kernel
theorem dX4_tick_30 : decode cX4_tick 30 = .ok (.aload_n 0, 1) := by decide +kernel
theorem dX4_tick_31 : decode cX4_tick 31 = .ok (.getfield 10, 3) := by decide +kernel
theorem dX4_tick_34 : decode cX4_tick 34 = .ok (.invokevirtual 106, 3) := by decide +kernel
theorem dX4_tick_37 : decode cX4_tick 37 = .ok (.iinc 3 1, 3) := by decide +kernel
theorem dX4_tick_40 : decode cX4_tick 40 = .ok (.goto (-15), 3) := by decide +kernel
theorem dX4_tick_43 : decode cX4_tick 43 = .ok (.aload_n 0, 1) := by decide +kernel
theorem dX4_tick_44 : decode cX4_tick 44 = .ok (.getfield 10, 3) := by decide +kernel
theorem dX4_tick_47 : decode cX4_tick 47 = .ok (.getfield 88, 3) := by decide +kernel
theorem dX4_tick_50 : decode cX4_tick 50 = .ok (.getfield 103, 3) := by decide +kernel
theorem dX4_tick_53 : decode cX4_tick 53 = .ok (.iload_n 2, 1) := by decide +kernel
theorem dX4_tick_54 : decode cX4_tick 54 = .ok (.isub, 1) := by decide +kernel
theorem dX4_tick_55 : decode cX4_tick 55 = .ok (.ireturn, 1) := by decide +kernel
set_option maxRecDepth 20000 in
theorem ggX4_length_X4_requireServer : GoodIn wsX4_length wsX4_requireServer := goodIn_ca (goodIn_r _ [8, 9, 10, 1, 11, 12, 13, 14, 15, 16, 17, 18, 19, 20, 21, 22, 23, 24, 25] (by decide +kernel) (by decide +kernel)) (goodIn_sub (fun _ h => List.mem_cons_of_mem _ (List.mem_append_right _ h)) (by decide +kernel))
set_option maxRecDepth 20000 in
theorem gX4_length_X4_requireServer : GoodIn wsX4_length (wsV RX4 78 RX4 yX4_requireServer wsX4_requireServer) := goodIn_app (goodIn_of _ (by decide +kernel)) ggX4_length_X4_requireServer
theorem dX4_length_0 : decode cX4_length 0 = .ok (.aload_n 0, 1) := by decide +kernel
theorem dX4_length_1 : decode cX4_length 1 = .ok (.iload_n 1, 1) := by decide +kernel
theorem dX4_length_2 : decode cX4_length 2 = .ok (.invokevirtual 78, 3) := by decide +kernel
theorem dX4_length_5 : decode cX4_length 5 = .ok (.aload_n 0, 1) := by decide +kernel
theorem dX4_length_6 : decode cX4_length 6 = .ok (.getfield 10, 3) := by decide +kernel
theorem dX4_length_9 : decode cX4_length 9 = .ok (.getfield 109, 3) := by decide +kernel
theorem dX4_length_12 : decode cX4_length 12 = .ok (.iload_n 1, 1) := by decide +kernel
theorem dX4_length_13 : decode cX4_length 13 = .ok (.aaload, 1) := by decide +kernel
theorem dX4_length_14 : decode cX4_length 14 = .ok (.getfield 113, 3) := by decide +kernel
theorem dX4_length_17 : decode cX4_length 17 = .ok (.ireturn, 1) := by decide +kernel
set_option maxRecDepth 20000 in
theorem ggX4_work_X4_requireServer : GoodIn wsX4_work wsX4_requireServer := goodIn_ca (goodIn_r _ [8, 9, 10, 1, 11, 12, 13, 14, 15, 16, 17, 18, 19, 20, 21, 22, 23, 24, 25] (by decide +kernel) (by decide +kernel)) (goodIn_sub (fun _ h => List.mem_cons_of_mem _ (List.mem_append_right _ h)) (by decide +kernel))
set_option maxRecDepth 20000 in
theorem gX4_work_X4_requireServer : GoodIn wsX4_work (wsV RX4 78 RX4 yX4_requireServer wsX4_requireServer) := goodIn_app (goodIn_of _ (by decide +kernel)) ggX4_work_X4_requireServer
theorem dX4_work_0 : decode cX4_work 0 = .ok (.aload_n 0, 1) := by decide +kernel
theorem dX4_work_1 : decode cX4_work 1 = .ok (.iload_n 1, 1) := by decide +kernel
theorem dX4_work_2 : decode cX4_work 2 = .ok (.invokevirtual 78, 3) := by decide +kernel
theorem dX4_work_5 : decode cX4_work 5 = .ok (.aload_n 0, 1) := by decide +kernel
theorem dX4_work_6 : decode cX4_work 6 = .ok (.getfield 10, 3) := by decide +kernel
theorem dX4_work_9 : decode cX4_work 9 = .ok (.getfield 109, 3) := by decide +kernel
theorem dX4_work_12 : decode cX4_work 12 = .ok (.iload_n 1, 1) := by decide +kernel
theorem dX4_work_13 : decode cX4_work 13 = .ok (.aaload, 1) := by decide +kernel
theorem dX4_work_14 : decode cX4_work 14 = .ok (.getfield 118, 3) := by decide +kernel
theorem dX4_work_17 : decode cX4_work 17 = .ok (.ireturn, 1) := by decide +kernel
set_option maxRecDepth 20000 in
theorem ggX4_registeredAt_X4_requireServer : GoodIn wsX4_registeredAt wsX4_requireServer := goodIn_ca (goodIn_r _ [8, 9, 10, 1, 11, 12, 13, 14, 15, 16, 17, 18, 19, 20, 21, 22, 23, 24, 25] (by decide +kernel) (by decide +kernel)) (goodIn_sub (fun _ h => List.mem_cons_of_mem _ (List.mem_append_right _ h)) (by decide +kernel))
set_option maxRecDepth 20000 in
theorem gX4_registeredAt_X4_requireServer : GoodIn wsX4_registeredAt (wsV RX4 78 RX4 yX4_requireServer wsX4_requireServer) := goodIn_app (goodIn_of _ (by decide +kernel)) ggX4_registeredAt_X4_requireServer
theorem dX4_registeredAt_0 : decode cX4_registeredAt 0 = .ok (.aload_n 0, 1) := by decide +kernel
theorem dX4_registeredAt_1 : decode cX4_registeredAt 1 = .ok (.iload_n 1, 1) := by decide +kernel
theorem dX4_registeredAt_2 : decode cX4_registeredAt 2 = .ok (.invokevirtual 78, 3) := by decide +kernel
theorem dX4_registeredAt_5 : decode cX4_registeredAt 5 = .ok (.aload_n 0, 1) := by decide +kernel
theorem dX4_registeredAt_6 : decode cX4_registeredAt 6 = .ok (.getfield 10, 3) := by decide +kernel
theorem dX4_registeredAt_9 : decode cX4_registeredAt 9 = .ok (.getfield 109, 3) := by decide +kernel
theorem dX4_registeredAt_12 : decode cX4_registeredAt 12 = .ok (.iload_n 1, 1) := by decide +kernel
theorem dX4_registeredAt_13 : decode cX4_registeredAt 13 = .ok (.aaload, 1) := by decide +kernel
theorem dX4_registeredAt_14 : decode cX4_registeredAt 14 = .ok (.getfield 121, 3) := by decide +kernel
theorem dX4_registeredAt_17 : decode cX4_registeredAt 17 = .ok (.ireturn, 1) := by decide +kernel
set_option maxRecDepth 20000 in
theorem ggX4_idleCount_X4_requireDispatcher : GoodIn wsX4_idleCount wsX4_requireDispatcher := goodIn_ca (goodIn_r _ [8, 9, 10, 1, 11, 12, 13, 14, 15, 16, 17, 18, 19, 20, 21, 22, 23, 24, 25] (by decide +kernel) (by decide +kernel)) (goodIn_sub (fun _ h => List.mem_cons_of_mem _ (List.mem_append_right _ h)) (by decide +kernel))
set_option maxRecDepth 20000 in
theorem gX4_idleCount_X4_requireDispatcher : GoodIn wsX4_idleCount (wsV RX4 54 RX4 yX4_requireDispatcher wsX4_requireDispatcher) := goodIn_app (goodIn_of _ (by decide +kernel)) ggX4_idleCount_X4_requireDispatcher
theorem dX4_idleCount_0 : decode cX4_idleCount 0 = .ok (.aload_n 0, 1) := by decide +kernel
theorem dX4_idleCount_1 : decode cX4_idleCount 1 = .ok (.iload_n 1, 1) := by decide +kernel
theorem dX4_idleCount_2 : decode cX4_idleCount 2 = .ok (.invokevirtual 54, 3) := by decide +kernel
theorem dX4_idleCount_5 : decode cX4_idleCount 5 = .ok (.aload_n 0, 1) := by decide +kernel
theorem dX4_idleCount_6 : decode cX4_idleCount 6 = .ok (.getfield 10, 3) := by decide +kernel
theorem dX4_idleCount_9 : decode cX4_idleCount 9 = .ok (.getfield 58, 3) := by decide +kernel
theorem dX4_idleCount_12 : decode cX4_idleCount 12 = .ok (.iload_n 1, 1) := by decide +kernel
theorem dX4_idleCount_13 : decode cX4_idleCount 13 = .ok (.aaload, 1) := by decide +kernel
theorem dX4_idleCount_14 : decode cX4_idleCount 14 = .ok (.getfield 124, 3) := by decide +kernel
theorem dX4_idleCount_17 : decode cX4_idleCount 17 = .ok (.ireturn, 1) := by decide +kernel
set_option maxRecDepth 20000 in
theorem ggX4_idleAt_X4_requireDispatcher : GoodIn wsX4_idleAt wsX4_requireDispatcher := goodIn_ca (goodIn_r _ [9, 10, 11, 1, 12, 18, 19, 20, 21, 22, 23, 24, 25, 26, 27, 28, 29, 30, 31] (by decide +kernel) (by decide +kernel)) (goodIn_sub (fun _ h => List.mem_cons_of_mem _ (List.mem_append_left _ (List.mem_append_right _ h))) (by decide +kernel))
set_option maxRecDepth 20000 in
theorem gX4_idleAt_X4_requireDispatcher : GoodIn wsX4_idleAt (wsV RX4 54 RX4 yX4_requireDispatcher wsX4_requireDispatcher) := goodIn_app (goodIn_of _ (by decide +kernel)) ggX4_idleAt_X4_requireDispatcher
set_option maxRecDepth 20000 in
theorem ggX4_idleAt_X4_requireIndex : GoodIn wsX4_idleAt wsX4_requireIndex := goodIn_ca (goodIn_r _ [15, 16, 17] (by decide +kernel) (by decide +kernel)) (goodIn_sub (fun _ h => List.mem_cons_of_mem _ (List.mem_append_right _ h)) (by decide +kernel))
set_option maxRecDepth 20000 in
theorem gX4_idleAt_X4_requireIndex : GoodIn wsX4_idleAt (va_wsS RX4 127 yX4_requireIndex wsX4_requireIndex) := goodIn_app (goodIn_of _ (by decide +kernel)) ggX4_idleAt_X4_requireIndex
theorem dX4_idleAt_0 : decode cX4_idleAt 0 = .ok (.aload_n 0, 1) := by decide +kernel
theorem dX4_idleAt_1 : decode cX4_idleAt 1 = .ok (.iload_n 1, 1) := by decide +kernel
theorem dX4_idleAt_2 : decode cX4_idleAt 2 = .ok (.invokevirtual 54, 3) := by decide +kernel
theorem dX4_idleAt_5 : decode cX4_idleAt 5 = .ok (.iload_n 2, 1) := by decide +kernel
theorem dX4_idleAt_6 : decode cX4_idleAt 6 = .ok (.aload_n 0, 1) := by decide +kernel
theorem dX4_idleAt_7 : decode cX4_idleAt 7 = .ok (.getfield 10, 3) := by decide +kernel
theorem dX4_idleAt_10 : decode cX4_idleAt 10 = .ok (.getfield 58, 3) := by decide +kernel
theorem dX4_idleAt_13 : decode cX4_idleAt 13 = .ok (.iload_n 1, 1) := by decide +kernel
theorem dX4_idleAt_14 : decode cX4_idleAt 14 = .ok (.aaload, 1) := by decide +kernel
theorem dX4_idleAt_15 : decode cX4_idleAt 15 = .ok (.getfield 124, 3) := by decide +kernel
theorem dX4_idleAt_18 : decode cX4_idleAt 18 = .ok (.invokestatic 127, 3) := by decide +kernel
theorem dX4_idleAt_21 : decode cX4_idleAt 21 = .ok (.aload_n 0, 1) := by decide +kernel
theorem dX4_idleAt_22 : decode cX4_idleAt 22 = .ok (.getfield 10, 3) := by decide +kernel
theorem dX4_idleAt_25 : decode cX4_idleAt 25 = .ok (.getfield 58, 3) := by decide +kernel
theorem dX4_idleAt_28 : decode cX4_idleAt 28 = .ok (.iload_n 1, 1) := by decide +kernel
theorem dX4_idleAt_29 : decode cX4_idleAt 29 = .ok (.aaload, 1) := by decide +kernel
theorem dX4_idleAt_30 : decode cX4_idleAt 30 = .ok (.getfield 131, 3) := by decide +kernel
theorem dX4_idleAt_33 : decode cX4_idleAt 33 = .ok (.iload_n 2, 1) := by decide +kernel
theorem dX4_idleAt_34 : decode cX4_idleAt 34 = .ok (.iaload, 1) := by decide +kernel
theorem dX4_idleAt_35 : decode cX4_idleAt 35 = .ok (.ireturn, 1) := by decide +kernel
set_option maxRecDepth 20000 in
theorem ggX4_knownLength_X4_requireDispatcher : GoodIn wsX4_knownLength wsX4_requireDispatcher := goodIn_ca (goodIn_r _ [8, 9, 10, 1, 11, 17, 18, 19, 20, 21, 22, 23, 24, 25, 26, 27, 28, 29, 30] (by decide +kernel) (by decide +kernel)) (goodIn_sub (fun _ h => List.mem_cons_of_mem _ (List.mem_append_right _ h)) (by decide +kernel))
set_option maxRecDepth 20000 in
theorem gX4_knownLength_X4_requireDispatcher : GoodIn wsX4_knownLength (wsV RX4 54 RX4 yX4_requireDispatcher wsX4_requireDispatcher) := goodIn_app (goodIn_of _ (by decide +kernel)) ggX4_knownLength_X4_requireDispatcher
set_option maxRecDepth 20000 in
theorem ggX4_knownLength_X4_requireServer : GoodIn wsX4_knownLength wsX4_requireServer := goodIn_ca (goodIn_r _ [15, 9, 10, 1, 16, 17, 18, 19, 20, 21, 22, 23, 24, 25, 26, 27, 28, 29, 30] (by decide +kernel) (by decide +kernel)) (goodIn_sub (fun _ h => List.mem_cons_of_mem _ (List.mem_append_right _ h)) (by decide +kernel))
set_option maxRecDepth 20000 in
theorem gX4_knownLength_X4_requireServer : GoodIn wsX4_knownLength (wsV RX4 78 RX4 yX4_requireServer wsX4_requireServer) := goodIn_app (goodIn_of _ (by decide +kernel)) ggX4_knownLength_X4_requireServer
theorem dX4_knownLength_0 : decode cX4_knownLength 0 = .ok (.aload_n 0, 1) := by decide +kernel
theorem dX4_knownLength_1 : decode cX4_knownLength 1 = .ok (.iload_n 1, 1) := by decide +kernel
theorem dX4_knownLength_2 : decode cX4_knownLength 2 = .ok (.invokevirtual 54, 3) := by decide +kernel
theorem dX4_knownLength_5 : decode cX4_knownLength 5 = .ok (.aload_n 0, 1) := by decide +kernel
theorem dX4_knownLength_6 : decode cX4_knownLength 6 = .ok (.iload_n 2, 1) := by decide +kernel
theorem dX4_knownLength_7 : decode cX4_knownLength 7 = .ok (.invokevirtual 78, 3) := by decide +kernel
theorem dX4_knownLength_10 : decode cX4_knownLength 10 = .ok (.aload_n 0, 1) := by decide +kernel
theorem dX4_knownLength_11 : decode cX4_knownLength 11 = .ok (.getfield 10, 3) := by decide +kernel
theorem dX4_knownLength_14 : decode cX4_knownLength 14 = .ok (.getfield 58, 3) := by decide +kernel
theorem dX4_knownLength_17 : decode cX4_knownLength 17 = .ok (.iload_n 1, 1) := by decide +kernel
theorem dX4_knownLength_18 : decode cX4_knownLength 18 = .ok (.aaload, 1) := by decide +kernel
theorem dX4_knownLength_19 : decode cX4_knownLength 19 = .ok (.getfield 135, 3) := by decide +kernel
theorem dX4_knownLength_22 : decode cX4_knownLength 22 = .ok (.iload_n 2, 1) := by decide +kernel
theorem dX4_knownLength_23 : decode cX4_knownLength 23 = .ok (.iaload, 1) := by decide +kernel
theorem dX4_knownLength_24 : decode cX4_knownLength 24 = .ok (.ireturn, 1) := by decide +kernel
set_option maxRecDepth 20000 in
theorem ggX4_expectedLength_X4_requireDispatcher : GoodIn wsX4_expectedLength wsX4_requireDispatcher := goodIn_ca (goodIn_r _ [6, 7, 8, 1, 9, 66, 67, 68, 69, 70, 71, 72, 73, 74, 75, 76, 77, 78, 79] (by decide +kernel) (by decide +kernel)) (goodIn_sub (fun _ h => List.mem_cons_of_mem _ (List.mem_append_left _ (List.mem_append_right _ h))) (by decide +kernel))
set_option maxRecDepth 20000 in
theorem gX4_expectedLength_X4_requireDispatcher : GoodIn wsX4_expectedLength (wsV RX4 54 RX4 yX4_requireDispatcher wsX4_requireDispatcher) := goodIn_app (goodIn_of _ (by decide +kernel)) ggX4_expectedLength_X4_requireDispatcher
set_option maxRecDepth 20000 in
theorem ggX4_expectedLength_X4_requireRange : GoodIn wsX4_expectedLength wsX4_requireRange := goodIn_ca (goodIn_r _ [12, 7, 8] (by decide +kernel) (by decide +kernel)) (goodIn_sub (fun _ h => List.mem_cons_of_mem _ (List.mem_append_left _ (List.mem_append_right _ h))) (by decide +kernel))
set_option maxRecDepth 20000 in
theorem gX4_expectedLength_X4_requireRange : GoodIn wsX4_expectedLength (va_wsS RX4 41 yX4_requireRange wsX4_requireRange) := goodIn_app (goodIn_of _ (by decide +kernel)) ggX4_expectedLength_X4_requireRange
set_option maxRecDepth 20000 in
theorem ggX4_expectedLength_X4_requireServerUp : GoodIn wsX4_expectedLength wsX4_requireServerUp := goodIn_ca (goodIn_r _ [16, 17, 18, 1, 19, 66, 67, 68, 69, 70, 71, 72, 73, 74, 75, 76, 77, 78, 79] (by decide +kernel) (by decide +kernel)) (goodIn_sub (fun _ h => List.mem_cons_of_mem _ (List.mem_append_right _ h)) (by decide +kernel))
set_option maxRecDepth 20000 in
theorem gX4_expectedLength_X4_requireServerUp : GoodIn wsX4_expectedLength (wsV RX4 85 RX4 yX4_requireServerUp wsX4_requireServerUp) := goodIn_app (goodIn_of _ (by decide +kernel)) ggX4_expectedLength_X4_requireServerUp
set_option maxRecDepth 20000 in
theorem ggX4_expectedLength_X3_sumOverOutcomes : GoodIn wsX4_expectedLength wsX3_sumOverOutcomes := goodIn_r _ [24, 25, 26, 27, 28, 29, 30, 31, 23, 32, 33, 34, 35, 36, 37, 38, 39, 40, 41, 42, 43, 44, 45, 46, 47, 48, 49, 50, 51, 52, 53, 54, 55, 56, 57, 58, 69, 70, 71, 72, 73, 74, 75, 76, 77, 78, 79, 80, 81, 82, 83, 84, 85, 86, 87, 88, 89, 90] (by decide +kernel) (by decide +kernel)
set_option maxRecDepth 20000 in
theorem gX4_expectedLength_X3_sumOverOutcomes : GoodIn wsX4_expectedLength (wsV RX4 138 RX3 yX3_sumOverOutcomes wsX3_sumOverOutcomes) := goodIn_app (goodIn_of _ (by decide +kernel)) ggX4_expectedLength_X3_sumOverOutcomes
set_option maxRecDepth 20000 in
theorem ggX4_expectedLength_X3_countOutcomes : GoodIn wsX4_expectedLength wsX3_countOutcomes := goodIn_r _ [62, 25, 28, 41, 29, 30, 31, 23, 32, 33, 34, 35, 36, 37, 38, 39, 40, 42, 43, 44, 45, 46, 69, 70, 71, 72, 73, 74, 75, 76, 77, 78, 79, 86, 87, 88, 89, 90] (by decide +kernel) (by decide +kernel)
set_option maxRecDepth 20000 in
theorem gX4_expectedLength_X3_countOutcomes : GoodIn wsX4_expectedLength (wsV RX4 141 RX3 yX3_countOutcomes wsX3_countOutcomes) := goodIn_app (goodIn_of _ (by decide +kernel)) ggX4_expectedLength_X3_countOutcomes
set_option maxRecDepth 20000 in
theorem ggX4_expectedLength_X4_commonDivisor : GoodIn wsX4_expectedLength wsX4_commonDivisor := goodIn_r _ [65] (by decide +kernel) (by decide +kernel)
set_option maxRecDepth 20000 in
theorem gX4_expectedLength_X4_commonDivisor : GoodIn wsX4_expectedLength (va_wsS RX4 144 yX4_commonDivisor wsX4_commonDivisor) := goodIn_app (goodIn_of _ (by decide +kernel)) ggX4_expectedLength_X4_commonDivisor
theorem dX4_expectedLength_0 : decode cX4_expectedLength 0 = .ok (.aload_n 0, 1) := by decide +kernel
theorem dX4_expectedLength_1 : decode cX4_expectedLength 1 = .ok (.iload_n 1, 1) := by decide +kernel
theorem dX4_expectedLength_2 : decode cX4_expectedLength 2 = .ok (.invokevirtual 54, 3) := by decide +kernel
theorem dX4_expectedLength_5 : decode cX4_expectedLength 5 = .ok (.iload_n 2, 1) := by decide +kernel
theorem dX4_expectedLength_6 : decode cX4_expectedLength 6 = .ok (.iconst 0, 1) := by decide +kernel
theorem dX4_expectedLength_7 : decode cX4_expectedLength 7 = .ok (.iconst 1, 1) := by decide +kernel
theorem dX4_expectedLength_8 : decode cX4_expectedLength 8 = .ok (.invokestatic 41, 3) := by decide +kernel
theorem dX4_expectedLength_11 : decode cX4_expectedLength 11 = .ok (.aload_n 0, 1) := by decide +kernel
theorem dX4_expectedLength_12 : decode cX4_expectedLength 12 = .ok (.invokevirtual 85, 3) := by decide +kernel
theorem dX4_expectedLength_15 : decode cX4_expectedLength 15 = .ok (.aload_n 0, 1) := by decide +kernel
theorem dX4_expectedLength_16 : decode cX4_expectedLength 16 = .ok (.getfield 10, 3) := by decide +kernel
theorem dX4_expectedLength_19 : decode cX4_expectedLength 19 = .ok (.iload_n 1, 1) := by decide +kernel
theorem dX4_expectedLength_20 : decode cX4_expectedLength 20 = .ok (.invokevirtual 138, 3) := by decide +kernel
theorem dX4_expectedLength_23 : decode cX4_expectedLength 23 = .ok (.istore_n 3, 1) := by decide +kernel
theorem dX4_expectedLength_24 : decode cX4_expectedLength 24 = .ok (.aload_n 0, 1) := by decide +kernel
theorem dX4_expectedLength_25 : decode cX4_expectedLength 25 = .ok (.getfield 10, 3) := by decide +kernel
theorem dX4_expectedLength_28 : decode cX4_expectedLength 28 = .ok (.iload_n 1, 1) := by decide +kernel
theorem dX4_expectedLength_29 : decode cX4_expectedLength 29 = .ok (.invokevirtual 141, 3) := by decide +kernel
theorem dX4_expectedLength_32 : decode cX4_expectedLength 32 = .ok (.istore 4, 2) := by decide +kernel
theorem dX4_expectedLength_34 : decode cX4_expectedLength 34 = .ok (.iload_n 2, 1) := by decide +kernel
theorem dX4_expectedLength_35 : decode cX4_expectedLength 35 = .ok (.ifCond .ne 7, 3) := by decide +kernel
theorem dX4_expectedLength_38 : decode cX4_expectedLength 38 = .ok (.iload_n 3, 1) := by decide +kernel
theorem dX4_expectedLength_39 : decode cX4_expectedLength 39 = .ok (.goto 5, 3) := by decide +kernel
theorem dX4_expectedLength_42 : decode cX4_expectedLength 42 = .ok (.iload 4, 2) := by decide +kernel
theorem dX4_expectedLength_44 : decode cX4_expectedLength 44 = .ok (.istore 5, 2) := by decide +kernel
theorem dX4_expectedLength_46 : decode cX4_expectedLength 46 = .ok (.iload 5, 2) := by decide +kernel
theorem dX4_expectedLength_48 : decode cX4_expectedLength 48 = .ok (.iload_n 3, 1) := by decide +kernel
theorem dX4_expectedLength_49 : decode cX4_expectedLength 49 = .ok (.iload 4, 2) := by decide +kernel
theorem dX4_expectedLength_51 : decode cX4_expectedLength 51 = .ok (.invokestatic 144, 3) := by decide +kernel
theorem dX4_expectedLength_54 : decode cX4_expectedLength 54 = .ok (.idiv, 1) := by decide +kernel
theorem dX4_expectedLength_55 : decode cX4_expectedLength 55 = .ok (.ireturn, 1) := by decide +kernel
theorem dX4_submitted_0 : decode cX4_submitted 0 = .ok (.aload_n 0, 1) := by decide +kernel
theorem dX4_submitted_1 : decode cX4_submitted 1 = .ok (.getfield 10, 3) := by decide +kernel
theorem dX4_submitted_4 : decode cX4_submitted 4 = .ok (.getfield 88, 3) := by decide +kernel
theorem dX4_submitted_7 : decode cX4_submitted 7 = .ok (.getfield 92, 3) := by decide +kernel
theorem dX4_submitted_10 : decode cX4_submitted 10 = .ok (.ireturn, 1) := by decide +kernel
theorem dX4_finished_0 : decode cX4_finished 0 = .ok (.aload_n 0, 1) := by decide +kernel
theorem dX4_finished_1 : decode cX4_finished 1 = .ok (.getfield 10, 3) := by decide +kernel
theorem dX4_finished_4 : decode cX4_finished 4 = .ok (.getfield 88, 3) := by decide +kernel
theorem dX4_finished_7 : decode cX4_finished 7 = .ok (.getfield 103, 3) := by decide +kernel
theorem dX4_finished_10 : decode cX4_finished 10 = .ok (.ireturn, 1) := by decide +kernel
set_option maxRecDepth 20000 in
theorem ggX4_serverOf_X4_requireIndex : GoodIn wsX4_serverOf wsX4_requireIndex := goodIn_ca (goodIn_r _ [8, 9, 10] (by decide +kernel) (by decide +kernel)) (goodIn_sub (fun _ h => List.mem_cons_of_mem _ (List.mem_append_right _ h)) (by decide +kernel))
set_option maxRecDepth 20000 in
theorem gX4_serverOf_X4_requireIndex : GoodIn wsX4_serverOf (va_wsS RX4 127 yX4_requireIndex wsX4_requireIndex) := goodIn_app (goodIn_of _ (by decide +kernel)) ggX4_serverOf_X4_requireIndex
theorem dX4_serverOf_0 : decode cX4_serverOf 0 = .ok (.iload_n 1, 1) := by decide +kernel
theorem dX4_serverOf_1 : decode cX4_serverOf 1 = .ok (.aload_n 0, 1) := by decide +kernel
theorem dX4_serverOf_2 : decode cX4_serverOf 2 = .ok (.getfield 10, 3) := by decide +kernel
theorem dX4_serverOf_5 : decode cX4_serverOf 5 = .ok (.getfield 88, 3) := by decide +kernel
theorem dX4_serverOf_8 : decode cX4_serverOf 8 = .ok (.getfield 92, 3) := by decide +kernel
theorem dX4_serverOf_11 : decode cX4_serverOf 11 = .ok (.invokestatic 127, 3) := by decide +kernel
theorem dX4_serverOf_14 : decode cX4_serverOf 14 = .ok (.aload_n 0, 1) := by decide +kernel
theorem dX4_serverOf_15 : decode cX4_serverOf 15 = .ok (.getfield 10, 3) := by decide +kernel
theorem dX4_serverOf_18 : decode cX4_serverOf 18 = .ok (.getfield 88, 3) := by decide +kernel
theorem dX4_serverOf_21 : decode cX4_serverOf 21 = .ok (.getfield 147, 3) := by decide +kernel
theorem dX4_serverOf_24 : decode cX4_serverOf 24 = .ok (.iload_n 1, 1) := by decide +kernel
theorem dX4_serverOf_25 : decode cX4_serverOf 25 = .ok (.iaload, 1) := by decide +kernel
theorem dX4_serverOf_26 : decode cX4_serverOf 26 = .ok (.ireturn, 1) := by decide +kernel
set_option maxRecDepth 20000 in
theorem ggX4_waitOf_X4_requireIndex : GoodIn wsX4_waitOf wsX4_requireIndex := goodIn_ca (goodIn_r _ [8, 9, 10] (by decide +kernel) (by decide +kernel)) (goodIn_sub (fun _ h => List.mem_cons_of_mem _ (List.mem_append_right _ h)) (by decide +kernel))
set_option maxRecDepth 20000 in
theorem gX4_waitOf_X4_requireIndex : GoodIn wsX4_waitOf (va_wsS RX4 127 yX4_requireIndex wsX4_requireIndex) := goodIn_app (goodIn_of _ (by decide +kernel)) ggX4_waitOf_X4_requireIndex
theorem dX4_waitOf_0 : decode cX4_waitOf 0 = .ok (.iload_n 1, 1) := by decide +kernel
theorem dX4_waitOf_1 : decode cX4_waitOf 1 = .ok (.aload_n 0, 1) := by decide +kernel
theorem dX4_waitOf_2 : decode cX4_waitOf 2 = .ok (.getfield 10, 3) := by decide +kernel
theorem dX4_waitOf_5 : decode cX4_waitOf 5 = .ok (.getfield 88, 3) := by decide +kernel
theorem dX4_waitOf_8 : decode cX4_waitOf 8 = .ok (.getfield 92, 3) := by decide +kernel
theorem dX4_waitOf_11 : decode cX4_waitOf 11 = .ok (.invokestatic 127, 3) := by decide +kernel
theorem dX4_waitOf_14 : decode cX4_waitOf 14 = .ok (.aload_n 0, 1) := by decide +kernel
theorem dX4_waitOf_15 : decode cX4_waitOf 15 = .ok (.getfield 10, 3) := by decide +kernel
theorem dX4_waitOf_18 : decode cX4_waitOf 18 = .ok (.getfield 88, 3) := by decide +kernel
theorem dX4_waitOf_21 : decode cX4_waitOf 21 = .ok (.getfield 150, 3) := by decide +kernel
theorem dX4_waitOf_24 : decode cX4_waitOf 24 = .ok (.iload_n 1, 1) := by decide +kernel
theorem dX4_waitOf_25 : decode cX4_waitOf 25 = .ok (.iaload, 1) := by decide +kernel
theorem dX4_waitOf_26 : decode cX4_waitOf 26 = .ok (.ireturn, 1) := by decide +kernel
theorem dX4_meanWait_0 : decode cX4_meanWait 0 = .ok (.aload_n 0, 1) := by decide +kernel
theorem dX4_meanWait_1 : decode cX4_meanWait 1 = .ok (.getfield 10, 3) := by decide +kernel
theorem dX4_meanWait_4 : decode cX4_meanWait 4 = .ok (.getfield 88, 3) := by decide +kernel
theorem dX4_meanWait_7 : decode cX4_meanWait 7 = .ok (.getfield 153, 3) := by decide +kernel
theorem dX4_meanWait_10 : decode cX4_meanWait 10 = .ok (.ifCond .gt 5, 3) := by decide +kernel
theorem dX4_meanWait_13 : decode cX4_meanWait 13 = .ok (.dconst 0, 1) := by decide +kernel
theorem dX4_meanWait_14 : decode cX4_meanWait 14 = .ok (.dreturn, 1) := by decide +kernel
theorem dX4_meanWait_15 : decode cX4_meanWait 15 = .ok (.aload_n 0, 1) := by decide +kernel
theorem dX4_meanWait_16 : decode cX4_meanWait 16 = .ok (.getfield 10, 3) := by decide +kernel
theorem dX4_meanWait_19 : decode cX4_meanWait 19 = .ok (.getfield 88, 3) := by decide +kernel
theorem dX4_meanWait_22 : decode cX4_meanWait 22 = .ok (.getfield 156, 3) := by decide +kernel
theorem dX4_meanWait_25 : decode cX4_meanWait 25 = .ok (.i2d, 1) := by decide +kernel
theorem dX4_meanWait_26 : decode cX4_meanWait 26 = .ok (.aload_n 0, 1) := by decide +kernel
theorem dX4_meanWait_27 : decode cX4_meanWait 27 = .ok (.getfield 10, 3) := by decide +kernel
theorem dX4_meanWait_30 : decode cX4_meanWait 30 = .ok (.getfield 88, 3) := by decide +kernel
theorem dX4_meanWait_33 : decode cX4_meanWait 33 = .ok (.getfield 153, 3) := by decide +kernel
theorem dX4_meanWait_36 : decode cX4_meanWait 36 = .ok (.i2d, 1) := by decide +kernel
theorem dX4_meanWait_37 : decode cX4_meanWait 37 = .ok (.ddiv, 1) := by decide +kernel
theorem dX4_meanWait_38 : decode cX4_meanWait 38 = .ok (.dreturn, 1) := by decide +kernel
theorem dX4_missed_0 : decode cX4_missed 0 = .ok (.aload_n 0, 1) := by decide +kernel
theorem dX4_missed_1 : decode cX4_missed 1 = .ok (.getfield 10, 3) := by decide +kernel
theorem dX4_missed_4 : decode cX4_missed 4 = .ok (.getfield 88, 3) := by decide +kernel
theorem dX4_missed_7 : decode cX4_missed 7 = .ok (.getfield 159, 3) := by decide +kernel
theorem dX4_missed_10 : decode cX4_missed 10 = .ok (.ireturn, 1) := by decide +kernel
theorem dX4_now_0 : decode cX4_now 0 = .ok (.aload_n 0, 1) := by decide +kernel
theorem dX4_now_1 : decode cX4_now 1 = .ok (.getfield 10, 3) := by decide +kernel
theorem dX4_now_4 : decode cX4_now 4 = .ok (.getfield 162, 3) := by decide +kernel
theorem dX4_now_7 : decode cX4_now 7 = .ok (.ireturn, 1) := by decide +kernel
theorem dX4_undo_0 : decode cX4_undo 0 = .ok (.aload_n 0, 1) := by decide +kernel
theorem dX4_undo_1 : decode cX4_undo 1 = .ok (.getfield 20, 3) := by decide +kernel
theorem dX4_undo_4 : decode cX4_undo 4 = .ok (.ifCond .gt 13, 3) := by decide +kernel
theorem dX4_undo_7 : decode cX4_undo 7 = .ok (.new 27, 3) := by decide +kernel
theorem dX4_undo_10 : decode cX4_undo 10 = .ok (.dup, 1) := by decide +kernel
theorem dX4_undo_11 : decode cX4_undo 11 = .ok (.ldc 165, 2) := by decide +kernel
theorem dX4_undo_13 : decode cX4_undo 13 = .ok (.invokespecial 31, 3) := by decide +kernel
theorem dX4_undo_16 : decode cX4_undo 16 = .ok (.athrow, 1) := by decide +kernel
theorem dX4_undo_17 : decode cX4_undo 17 = .ok (.aload_n 0, 1) := by decide +kernel
theorem dX4_undo_18 : decode cX4_undo 18 = .ok (.dup, 1) := by decide +kernel
theorem dX4_undo_19 : decode cX4_undo 19 = .ok (.getfield 20, 3) := by decide +kernel
theorem dX4_undo_22 : decode cX4_undo 22 = .ok (.iconst 1, 1) := by decide +kernel
theorem dX4_undo_23 : decode cX4_undo 23 = .ok (.isub, 1) := by decide +kernel
theorem dX4_undo_24 : decode cX4_undo 24 = .ok (.putfield 20, 3) := by decide +kernel
theorem dX4_undo_27 : decode cX4_undo 27 = .ok (.aload_n 0, 1) := by decide +kernel
theorem dX4_undo_28 : decode cX4_undo 28 = .ok (.getfield 10, 3) := by decide +kernel
theorem dX4_undo_31 : decode cX4_undo 31 = .ok (.astore_n 1, 1) := by decide +kernel
theorem dX4_undo_32 : decode cX4_undo 32 = .ok (.aload_n 0, 1) := by decide +kernel
theorem dX4_undo_33 : decode cX4_undo 33 = .ok (.aload_n 0, 1) := by decide +kernel
theorem dX4_undo_34 : decode cX4_undo 34 = .ok (.getfield 16, 3) := by decide +kernel
theorem dX4_undo_37 : decode cX4_undo 37 = .ok (.aload_n 0, 1) := by decide +kernel
theorem dX4_undo_38 : decode cX4_undo 38 = .ok (.getfield 20, 3) := by decide +kernel
theorem dX4_undo_41 : decode cX4_undo 41 = .ok (.aaload, 1) := by decide +kernel
theorem dX4_undo_42 : decode cX4_undo 42 = .ok (.putfield 10, 3) := by decide +kernel
theorem dX4_undo_45 : decode cX4_undo 45 = .ok (.aload_n 0, 1) := by decide +kernel
theorem dX4_undo_46 : decode cX4_undo 46 = .ok (.getfield 16, 3) := by decide +kernel
theorem dX4_undo_49 : decode cX4_undo 49 = .ok (.aload_n 0, 1) := by decide +kernel
theorem dX4_undo_50 : decode cX4_undo 50 = .ok (.getfield 20, 3) := by decide +kernel
theorem dX4_undo_53 : decode cX4_undo 53 = .ok (.aload_n 1, 1) := by decide +kernel
theorem dX4_undo_54 : decode cX4_undo 54 = .ok (.aastore, 1) := by decide +kernel
theorem dX4_undo_55 : decode cX4_undo 55 = .ok (.aload_n 0, 1) := by decide +kernel
theorem dX4_undo_56 : decode cX4_undo 56 = .ok (.getfield 20, 3) := by decide +kernel
theorem dX4_undo_59 : decode cX4_undo 59 = .ok (.ireturn, 1) := by decide +kernel
set_option maxRecDepth 20000 in
theorem ggX4_digest_X3_mixAll : GoodIn wsX4_digest wsX3_mixAll := goodIn_r _ [8, 9, 10, 11, 12, 13, 14, 15, 16, 17, 18, 19, 20, 21, 22, 23, 24, 25, 26, 27, 28, 29, 30, 31, 32, 33, 34, 35, 36, 37, 38, 39, 40, 41, 42, 43, 44, 49, 50, 51, 52, 53, 54, 55, 56, 57, 58, 59, 60, 61, 62, 63, 64, 65, 66, 67, 68, 69, 70, 71, 72, 73, 74, 75, 76, 77, 78, 79, 80] (by decide +kernel) (by decide +kernel)
set_option maxRecDepth 20000 in
theorem gX4_digest_X3_mixAll : GoodIn wsX4_digest (wsV RX4 169 RX3 yX3_mixAll wsX3_mixAll) := goodIn_app (goodIn_of _ (by decide +kernel)) ggX4_digest_X3_mixAll
set_option maxRecDepth 20000 in
theorem ggX4_digest_X4_mix : GoodIn wsX4_digest wsX4_mix := goodIn_r _ [24, 25] (by decide +kernel) (by decide +kernel)
set_option maxRecDepth 20000 in
theorem gX4_digest_X4_mix : GoodIn wsX4_digest (va_wsS RX4 173 yX4_mix wsX4_mix) := goodIn_app (goodIn_of _ (by decide +kernel)) ggX4_digest_X4_mix
theorem dX4_digest_0 : decode cX4_digest 0 = .ok (.aload_n 0, 1) := by decide +kernel
theorem dX4_digest_1 : decode cX4_digest 1 = .ok (.getfield 10, 3) := by decide +kernel
theorem dX4_digest_4 : decode cX4_digest 4 = .ok (.ldc2_w 167, 3) := by decide +kernel
theorem dX4_digest_7 : decode cX4_digest 7 = .ok (.invokevirtual 169, 3) := by decide +kernel
theorem dX4_digest_10 : decode cX4_digest 10 = .ok (.aload_n 0, 1) := by decide +kernel
theorem dX4_digest_11 : decode cX4_digest 11 = .ok (.getfield 20, 3) := by decide +kernel
theorem dX4_digest_14 : decode cX4_digest 14 = .ok (.i2l, 1) := by decide +kernel
theorem dX4_digest_15 : decode cX4_digest 15 = .ok (.invokestatic 173, 3) := by decide +kernel
theorem dX4_digest_18 : decode cX4_digest 18 = .ok (.lreturn, 1) := by decide +kernel
set_option maxRecDepth 20000 in
theorem ggX4_save_X4_dropOldest : GoodIn wsX4_save wsX4_dropOldest := goodIn_r _ [8, 2, 1, 71, 72, 73] (by decide +kernel) (by decide +kernel)
set_option maxRecDepth 20000 in
theorem gX4_save_X4_dropOldest : GoodIn wsX4_save (wsV RX4 177 RX4 yX4_dropOldest wsX4_dropOldest) := goodIn_app (goodIn_of _ (by decide +kernel)) ggX4_save_X4_dropOldest
set_option maxRecDepth 20000 in
theorem ggX4_save_X3_copyFrom : GoodIn wsX4_save wsX3_copyFrom := goodIn_r _ [13, 14, 15, 16, 17, 18, 19, 20, 21, 22, 23, 24, 25, 26, 27, 28, 29, 30, 31, 32, 33, 34, 35, 36, 37, 38, 39, 40, 41, 42, 43, 44, 45, 46, 47, 48, 49, 50, 51, 52, 53, 54, 55, 56, 57, 58, 59, 60, 61, 62, 63, 64, 65, 66, 12, 67, 68, 69, 70, 74, 75, 76, 77, 78, 79, 80, 81, 82, 83, 84, 85, 86, 87, 88, 89, 90, 91, 92, 93, 94, 95, 96, 97, 98, 99, 100, 101, 102, 103, 104, 105] (by decide +kernel) (by decide +kernel)
set_option maxRecDepth 20000 in
theorem gX4_save_X3_copyFrom : GoodIn wsX4_save (wsV RX4 180 RX3 yX3_copyFrom wsX3_copyFrom) := goodIn_app (goodIn_of _ (by decide +kernel)) ggX4_save_X3_copyFrom
theorem dX4_save_0 : decode cX4_save 0 = .ok (.aload_n 0, 1) := by decide +kernel
theorem dX4_save_1 : decode cX4_save 1 = .ok (.getfield 20, 3) := by decide +kernel
theorem dX4_save_4 : decode cX4_save 4 = .ok (.iconst 3, 1) := by decide +kernel
theorem dX4_save_5 : decode cX4_save 5 = .ok (.if_icmp .lt 7, 3) := by decide +kernel
theorem dX4_save_8 : decode cX4_save 8 = .ok (.aload_n 0, 1) := by decide +kernel
theorem dX4_save_9 : decode cX4_save 9 = .ok (.invokevirtual 177, 3) := by decide +kernel
theorem dX4_save_12 : decode cX4_save 12 = .ok (.aload_n 0, 1) := by decide +kernel
theorem dX4_save_13 : decode cX4_save 13 = .ok (.getfield 16, 3) := by decide +kernel
theorem dX4_save_16 : decode cX4_save 16 = .ok (.aload_n 0, 1) := by decide +kernel
theorem dX4_save_17 : decode cX4_save 17 = .ok (.getfield 20, 3) := by decide +kernel
theorem dX4_save_20 : decode cX4_save 20 = .ok (.aaload, 1) := by decide +kernel
theorem dX4_save_21 : decode cX4_save 21 = .ok (.aload_n 0, 1) := by decide +kernel
theorem dX4_save_22 : decode cX4_save 22 = .ok (.getfield 10, 3) := by decide +kernel
theorem dX4_save_25 : decode cX4_save 25 = .ok (.invokevirtual 180, 3) := by decide +kernel
theorem dX4_save_28 : decode cX4_save 28 = .ok (.aload_n 0, 1) := by decide +kernel
theorem dX4_save_29 : decode cX4_save 29 = .ok (.dup, 1) := by decide +kernel
theorem dX4_save_30 : decode cX4_save 30 = .ok (.getfield 20, 3) := by decide +kernel
theorem dX4_save_33 : decode cX4_save 33 = .ok (.iconst 1, 1) := by decide +kernel
theorem dX4_save_34 : decode cX4_save 34 = .ok (.iadd, 1) := by decide +kernel
theorem dX4_save_35 : decode cX4_save 35 = .ok (.putfield 20, 3) := by decide +kernel
theorem dX4_save_38 : decode cX4_save 38 = .ok (.return_, 1) := by decide +kernel
theorem dX4_dropOldest_0 : decode cX4_dropOldest 0 = .ok (.aload_n 0, 1) := by decide +kernel
theorem dX4_dropOldest_1 : decode cX4_dropOldest 1 = .ok (.getfield 16, 3) := by decide +kernel
theorem dX4_dropOldest_4 : decode cX4_dropOldest 4 = .ok (.iconst 0, 1) := by decide +kernel
theorem dX4_dropOldest_5 : decode cX4_dropOldest 5 = .ok (.aaload, 1) := by decide +kernel
theorem dX4_dropOldest_6 : decode cX4_dropOldest 6 = .ok (.astore_n 1, 1) := by decide +kernel
theorem dX4_dropOldest_7 : decode cX4_dropOldest 7 = .ok (.iconst 1, 1) := by decide +kernel
theorem dX4_dropOldest_8 : decode cX4_dropOldest 8 = .ok (.istore_n 2, 1) := by decide +kernel
theorem dX4_dropOldest_9 : decode cX4_dropOldest 9 = .ok (.iload_n 2, 1) := by decide +kernel
theorem dX4_dropOldest_10 : decode cX4_dropOldest 10 = .ok (.iconst 3, 1) := by decide +kernel
theorem dX4_dropOldest_11 : decode cX4_dropOldest 11 = .ok (.if_icmp .ge 23, 3) := by decide +kernel
theorem dX4_dropOldest_14 : decode cX4_dropOldest 14 = .ok (.aload_n 0, 1) := by decide +kernel
theorem dX4_dropOldest_15 : decode cX4_dropOldest 15 = .ok (.getfield 16, 3) := by decide +kernel
theorem dX4_dropOldest_18 : decode cX4_dropOldest 18 = .ok (.iload_n 2, 1) := by decide +kernel
theorem dX4_dropOldest_19 : decode cX4_dropOldest 19 = .ok (.iconst 1, 1) := by decide +kernel
theorem dX4_dropOldest_20 : decode cX4_dropOldest 20 = .ok (.isub, 1) := by decide +kernel
theorem dX4_dropOldest_21 : decode cX4_dropOldest 21 = .ok (.aload_n 0, 1) := by decide +kernel
theorem dX4_dropOldest_22 : decode cX4_dropOldest 22 = .ok (.getfield 16, 3) := by decide +kernel
theorem dX4_dropOldest_25 : decode cX4_dropOldest 25 = .ok (.iload_n 2, 1) := by decide +kernel
theorem dX4_dropOldest_26 : decode cX4_dropOldest 26 = .ok (.aaload, 1) := by decide +kernel
theorem dX4_dropOldest_27 : decode cX4_dropOldest 27 = .ok (.aastore, 1) := by decide +kernel
theorem dX4_dropOldest_28 : decode cX4_dropOldest 28 = .ok (.iinc 2 1, 3) := by decide +kernel
theorem dX4_dropOldest_31 : decode cX4_dropOldest 31 = .ok (.goto (-22), 3) := by decide +kernel
theorem dX4_dropOldest_34 : decode cX4_dropOldest 34 = .ok (.aload_n 0, 1) := by decide +kernel
theorem dX4_dropOldest_35 : decode cX4_dropOldest 35 = .ok (.getfield 16, 3) := by decide +kernel
theorem dX4_dropOldest_38 : decode cX4_dropOldest 38 = .ok (.iconst 2, 1) := by decide +kernel
theorem dX4_dropOldest_39 : decode cX4_dropOldest 39 = .ok (.aload_n 1, 1) := by decide +kernel
theorem dX4_dropOldest_40 : decode cX4_dropOldest 40 = .ok (.aastore, 1) := by decide +kernel
theorem dX4_dropOldest_41 : decode cX4_dropOldest 41 = .ok (.aload_n 0, 1) := by decide +kernel
theorem dX4_dropOldest_42 : decode cX4_dropOldest 42 = .ok (.iconst 2, 1) := by decide +kernel
theorem dX4_dropOldest_43 : decode cX4_dropOldest 43 = .ok (.putfield 20, 3) := by decide +kernel
theorem dX4_dropOldest_46 : decode cX4_dropOldest 46 = .ok (.return_, 1) := by decide +kernel
theorem dX4_requireServer_0 : decode cX4_requireServer 0 = .ok (.iload_n 1, 1) := by decide +kernel
theorem dX4_requireServer_1 : decode cX4_requireServer 1 = .ok (.ifCond .lt 14, 3) := by decide +kernel
theorem dX4_requireServer_4 : decode cX4_requireServer 4 = .ok (.iload_n 1, 1) := by decide +kernel
theorem dX4_requireServer_5 : decode cX4_requireServer 5 = .ok (.aload_n 0, 1) := by decide +kernel
theorem dX4_requireServer_6 : decode cX4_requireServer 6 = .ok (.getfield 10, 3) := by decide +kernel
theorem dX4_requireServer_9 : decode cX4_requireServer 9 = .ok (.getfield 24, 3) := by decide +kernel
theorem dX4_requireServer_12 : decode cX4_requireServer 12 = .ok (.if_icmp .lt 13, 3) := by decide +kernel
theorem dX4_requireServer_15 : decode cX4_requireServer 15 = .ok (.new 184, 3) := by decide +kernel
theorem dX4_requireServer_18 : decode cX4_requireServer 18 = .ok (.dup, 1) := by decide +kernel
theorem dX4_requireServer_19 : decode cX4_requireServer 19 = .ok (.ldc 186, 2) := by decide +kernel
theorem dX4_requireServer_21 : decode cX4_requireServer 21 = .ok (.invokespecial 188, 3) := by decide +kernel
theorem dX4_requireServer_24 : decode cX4_requireServer 24 = .ok (.athrow, 1) := by decide +kernel
theorem dX4_requireServer_25 : decode cX4_requireServer 25 = .ok (.return_, 1) := by decide +kernel
theorem dX4_requireDispatcher_0 : decode cX4_requireDispatcher 0 = .ok (.iload_n 1, 1) := by decide +kernel
theorem dX4_requireDispatcher_1 : decode cX4_requireDispatcher 1 = .ok (.ifCond .lt 14, 3) := by decide +kernel
theorem dX4_requireDispatcher_4 : decode cX4_requireDispatcher 4 = .ok (.iload_n 1, 1) := by decide +kernel
theorem dX4_requireDispatcher_5 : decode cX4_requireDispatcher 5 = .ok (.aload_n 0, 1) := by decide +kernel
theorem dX4_requireDispatcher_6 : decode cX4_requireDispatcher 6 = .ok (.getfield 10, 3) := by decide +kernel
theorem dX4_requireDispatcher_9 : decode cX4_requireDispatcher 9 = .ok (.getfield 45, 3) := by decide +kernel
theorem dX4_requireDispatcher_12 : decode cX4_requireDispatcher 12 = .ok (.if_icmp .lt 13, 3) := by decide +kernel
theorem dX4_requireDispatcher_15 : decode cX4_requireDispatcher 15 = .ok (.new 184, 3) := by decide +kernel
theorem dX4_requireDispatcher_18 : decode cX4_requireDispatcher 18 = .ok (.dup, 1) := by decide +kernel
theorem dX4_requireDispatcher_19 : decode cX4_requireDispatcher 19 = .ok (.ldc 189, 2) := by decide +kernel
theorem dX4_requireDispatcher_21 : decode cX4_requireDispatcher 21 = .ok (.invokespecial 188, 3) := by decide +kernel
theorem dX4_requireDispatcher_24 : decode cX4_requireDispatcher 24 = .ok (.athrow, 1) := by decide +kernel
theorem dX4_requireDispatcher_25 : decode cX4_requireDispatcher 25 = .ok (.return_, 1) := by decide +kernel
theorem dX4_requireServerUp_0 : decode cX4_requireServerUp 0 = .ok (.aload_n 0, 1) := by decide +kernel
theorem dX4_requireServerUp_1 : decode cX4_requireServerUp 1 = .ok (.getfield 10, 3) := by decide +kernel
theorem dX4_requireServerUp_4 : decode cX4_requireServerUp 4 = .ok (.getfield 191, 3) := by decide +kernel
theorem dX4_requireServerUp_7 : decode cX4_requireServerUp 7 = .ok (.ifCond .gt 13, 3) := by decide +kernel
theorem dX4_requireServerUp_10 : decode cX4_requireServerUp 10 = .ok (.new 27, 3) := by decide +kernel
theorem dX4_requireServerUp_13 : decode cX4_requireServerUp 13 = .ok (.dup, 1) := by decide +kernel
theorem dX4_requireServerUp_14 : decode cX4_requireServerUp 14 = .ok (.ldc 194, 2) := by decide +kernel
theorem dX4_requireServerUp_16 : decode cX4_requireServerUp 16 = .ok (.invokespecial 31, 3) := by decide +kernel
theorem dX4_requireServerUp_19 : decode cX4_requireServerUp 19 = .ok (.athrow, 1) := by decide +kernel
theorem dX4_requireServerUp_20 : decode cX4_requireServerUp 20 = .ok (.return_, 1) := by decide +kernel
theorem dX4_requireRange_0 : decode cX4_requireRange 0 = .ok (.iload_n 0, 1) := by decide +kernel
theorem dX4_requireRange_1 : decode cX4_requireRange 1 = .ok (.iload_n 1, 1) := by decide +kernel
theorem dX4_requireRange_2 : decode cX4_requireRange 2 = .ok (.if_icmp .lt 8, 3) := by decide +kernel
theorem dX4_requireRange_5 : decode cX4_requireRange 5 = .ok (.iload_n 0, 1) := by decide +kernel
theorem dX4_requireRange_6 : decode cX4_requireRange 6 = .ok (.iload_n 2, 1) := by decide +kernel
theorem dX4_requireRange_7 : decode cX4_requireRange 7 = .ok (.if_icmp .le 13, 3) := by decide +kernel
theorem dX4_requireRange_10 : decode cX4_requireRange 10 = .ok (.new 184, 3) := by decide +kernel
theorem dX4_requireRange_13 : decode cX4_requireRange 13 = .ok (.dup, 1) := by decide +kernel
theorem dX4_requireRange_14 : decode cX4_requireRange 14 = .ok (.ldc 196, 2) := by decide +kernel
theorem dX4_requireRange_16 : decode cX4_requireRange 16 = .ok (.invokespecial 188, 3) := by decide +kernel
theorem dX4_requireRange_19 : decode cX4_requireRange 19 = .ok (.athrow, 1) := by decide +kernel
theorem dX4_requireRange_20 : decode cX4_requireRange 20 = .ok (.return_, 1) := by decide +kernel
theorem dX4_requireIndex_0 : decode cX4_requireIndex 0 = .ok (.iload_n 0, 1) := by decide +kernel
theorem dX4_requireIndex_1 : decode cX4_requireIndex 1 = .ok (.ifCond .lt 8, 3) := by decide +kernel
theorem dX4_requireIndex_4 : decode cX4_requireIndex 4 = .ok (.iload_n 0, 1) := by decide +kernel
theorem dX4_requireIndex_5 : decode cX4_requireIndex 5 = .ok (.iload_n 1, 1) := by decide +kernel
theorem dX4_requireIndex_6 : decode cX4_requireIndex 6 = .ok (.if_icmp .lt 13, 3) := by decide +kernel
theorem dX4_requireIndex_9 : decode cX4_requireIndex 9 = .ok (.new 198, 3) := by decide +kernel
theorem dX4_requireIndex_12 : decode cX4_requireIndex 12 = .ok (.dup, 1) := by decide +kernel
theorem dX4_requireIndex_13 : decode cX4_requireIndex 13 = .ok (.ldc 200, 2) := by decide +kernel
theorem dX4_requireIndex_15 : decode cX4_requireIndex 15 = .ok (.invokespecial 202, 3) := by decide +kernel
theorem dX4_requireIndex_18 : decode cX4_requireIndex 18 = .ok (.athrow, 1) := by decide +kernel
theorem dX4_requireIndex_19 : decode cX4_requireIndex 19 = .ok (.return_, 1) := by decide +kernel
theorem dX4_commonDivisor_0 : decode cX4_commonDivisor 0 = .ok (.iload_n 1, 1) := by decide +kernel
theorem dX4_commonDivisor_1 : decode cX4_commonDivisor 1 = .ok (.istore_n 2, 1) := by decide +kernel
theorem dX4_commonDivisor_2 : decode cX4_commonDivisor 2 = .ok (.iload_n 2, 1) := by decide +kernel
theorem dX4_commonDivisor_3 : decode cX4_commonDivisor 3 = .ok (.iconst 1, 1) := by decide +kernel
theorem dX4_commonDivisor_4 : decode cX4_commonDivisor 4 = .ok (.if_icmp .le 23, 3) := by decide +kernel
theorem dX4_commonDivisor_7 : decode cX4_commonDivisor 7 = .ok (.iload_n 0, 1) := by decide +kernel
theorem dX4_commonDivisor_8 : decode cX4_commonDivisor 8 = .ok (.iload_n 2, 1) := by decide +kernel
theorem dX4_commonDivisor_9 : decode cX4_commonDivisor 9 = .ok (.irem, 1) := by decide +kernel
theorem dX4_commonDivisor_10 : decode cX4_commonDivisor 10 = .ok (.ifCond .ne 11, 3) := by decide +kernel
theorem dX4_commonDivisor_13 : decode cX4_commonDivisor 13 = .ok (.iload_n 1, 1) := by decide +kernel
theorem dX4_commonDivisor_14 : decode cX4_commonDivisor 14 = .ok (.iload_n 2, 1) := by decide +kernel
theorem dX4_commonDivisor_15 : decode cX4_commonDivisor 15 = .ok (.irem, 1) := by decide +kernel
theorem dX4_commonDivisor_16 : decode cX4_commonDivisor 16 = .ok (.ifCond .ne 5, 3) := by decide +kernel
theorem dX4_commonDivisor_19 : decode cX4_commonDivisor 19 = .ok (.iload_n 2, 1) := by decide +kernel
theorem dX4_commonDivisor_20 : decode cX4_commonDivisor 20 = .ok (.ireturn, 1) := by decide +kernel
theorem dX4_commonDivisor_21 : decode cX4_commonDivisor 21 = .ok (.iinc 2 (-1), 3) := by decide +kernel
theorem dX4_commonDivisor_24 : decode cX4_commonDivisor 24 = .ok (.goto (-22), 3) := by decide +kernel
theorem dX4_commonDivisor_27 : decode cX4_commonDivisor 27 = .ok (.iconst 1, 1) := by decide +kernel
theorem dX4_commonDivisor_28 : decode cX4_commonDivisor 28 = .ok (.ireturn, 1) := by decide +kernel
theorem dX4_mix_0 : decode cX4_mix 0 = .ok (.ldc2_w 203, 3) := by decide +kernel
theorem dX4_mix_3 : decode cX4_mix 3 = .ok (.lload_n 0, 1) := by decide +kernel
theorem dX4_mix_4 : decode cX4_mix 4 = .ok (.lmul, 1) := by decide +kernel
theorem dX4_mix_5 : decode cX4_mix 5 = .ok (.lload_n 2, 1) := by decide +kernel
theorem dX4_mix_6 : decode cX4_mix 6 = .ok (.ladd, 1) := by decide +kernel
theorem dX4_mix_7 : decode cX4_mix 7 = .ok (.lreturn, 1) := by decide +kernel
theorem dX5_init_0 : decode cX5_init 0 = .ok (.aload_n 0, 1) := by decide +kernel
theorem dX5_init_1 : decode cX5_init 1 = .ok (.invokespecial 1, 3) := by decide +kernel
theorem dX5_init_4 : decode cX5_init 4 = .ok (.aload_n 0, 1) := by decide +kernel
theorem dX5_init_5 : decode cX5_init 5 = .ok (.sipush 893, 3) := by decide +kernel
theorem dX5_init_8 : decode cX5_init 8 = .ok (.newarray .int, 2) := by decide +kernel
theorem dX5_init_10 : decode cX5_init 10 = .ok (.putfield 7, 3) := by decide +kernel
theorem dX5_init_13 : decode cX5_init 13 = .ok (.aload_n 0, 1) := by decide +kernel
theorem dX5_init_14 : decode cX5_init 14 = .ok (.sipush 2679, 3) := by decide +kernel
theorem dX5_init_17 : decode cX5_init 17 = .ok (.newarray .int, 2) := by decide +kernel
theorem dX5_init_19 : decode cX5_init 19 = .ok (.putfield 13, 3) := by decide +kernel
theorem dX5_init_22 : decode cX5_init 22 = .ok (.aload_n 0, 1) := by decide +kernel
theorem dX5_init_23 : decode cX5_init 23 = .ok (.bipush 8, 2) := by decide +kernel
theorem dX5_init_25 : decode cX5_init 25 = .ok (.newarray .int, 2) := by decide +kernel
theorem dX5_init_27 : decode cX5_init 27 = .ok (.putfield 16, 3) := by decide +kernel
theorem dX5_init_30 : decode cX5_init 30 = .ok (.aload_n 0, 1) := by decide +kernel
theorem dX5_init_31 : decode cX5_init 31 = .ok (.getfield 7, 3) := by decide +kernel
theorem dX5_init_34 : decode cX5_init 34 = .ok (.iconst 0, 1) := by decide +kernel
theorem dX5_init_35 : decode cX5_init 35 = .ok (.iconst 1, 1) := by decide +kernel
theorem dX5_init_36 : decode cX5_init 36 = .ok (.iastore, 1) := by decide +kernel
theorem dX5_init_37 : decode cX5_init 37 = .ok (.aload_n 0, 1) := by decide +kernel
theorem dX5_init_38 : decode cX5_init 38 = .ok (.getfield 7, 3) := by decide +kernel
theorem dX5_init_41 : decode cX5_init 41 = .ok (.iconst 3, 1) := by decide +kernel
theorem dX5_init_42 : decode cX5_init 42 = .ok (.bipush 8, 2) := by decide +kernel
theorem dX5_init_44 : decode cX5_init 44 = .ok (.iastore, 1) := by decide +kernel
theorem dX5_init_45 : decode cX5_init 45 = .ok (.return_, 1) := by decide +kernel
theorem dX5_thrown_0 : decode cX5_thrown 0 = .ok (.aload_n 0, 1) := by decide +kernel
theorem dX5_thrown_1 : decode cX5_thrown 1 = .ok (.getfield 19, 3) := by decide +kernel
theorem dX5_thrown_4 : decode cX5_thrown 4 = .ok (.ireturn, 1) := by decide +kernel
theorem dX5_refuse_0 : decode cX5_refuse 0 = .ok (.aload_n 0, 1) := by decide +kernel
theorem dX5_refuse_1 : decode cX5_refuse 1 = .ok (.iload_n 1, 1) := by decide +kernel
theorem dX5_refuse_2 : decode cX5_refuse 2 = .ok (.putfield 19, 3) := by decide +kernel
theorem dX5_refuse_5 : decode cX5_refuse 5 = .ok (.iconst 0, 1) := by decide +kernel
theorem dX5_refuse_6 : decode cX5_refuse 6 = .ok (.ireturn, 1) := by decide +kernel
theorem dX5_in_0 : decode cX5_in 0 = .ok (.iload_n 0, 1) := by decide +kernel
theorem dX5_in_1 : decode cX5_in 1 = .ok (.iload_n 1, 1) := by decide +kernel
theorem dX5_in_2 : decode cX5_in 2 = .ok (.if_icmp .lt 12, 3) := by decide +kernel
theorem dX5_in_5 : decode cX5_in 5 = .ok (.iload_n 0, 1) := by decide +kernel
theorem dX5_in_6 : decode cX5_in 6 = .ok (.iload_n 2, 1) := by decide +kernel
theorem dX5_in_7 : decode cX5_in 7 = .ok (.if_icmp .gt 7, 3) := by decide +kernel
theorem dX5_in_10 : decode cX5_in 10 = .ok (.iconst 1, 1) := by decide +kernel
theorem dX5_in_11 : decode cX5_in 11 = .ok (.goto 4, 3) := by decide +kernel
theorem dX5_in_14 : decode cX5_in 14 = .ok (.iconst 0, 1) := by decide +kernel
theorem dX5_in_15 : decode cX5_in 15 = .ok (.ireturn, 1) := by decide +kernel
set_option maxRecDepth 20000 in
theorem ggX5_isServer_X5_in : GoodIn wsX5_isServer wsX5_in := goodIn_r _ [5] (by decide +kernel) (by decide +kernel)
set_option maxRecDepth 20000 in
theorem gX5_isServer_X5_in : GoodIn wsX5_isServer (va_wsS RX5 23 yX5_in wsX5_in) := goodIn_app (goodIn_of _ (by decide +kernel)) ggX5_isServer_X5_in
theorem dX5_isServer_0 : decode cX5_isServer 0 = .ok (.iload_n 1, 1) := by decide +kernel
theorem dX5_isServer_1 : decode cX5_isServer 1 = .ok (.iconst 0, 1) := by decide +kernel
theorem dX5_isServer_2 : decode cX5_isServer 2 = .ok (.aload_n 0, 1) := by decide +kernel
theorem dX5_isServer_3 : decode cX5_isServer 3 = .ok (.getfield 7, 3) := by decide +kernel
theorem dX5_isServer_6 : decode cX5_isServer 6 = .ok (.iconst 4, 1) := by decide +kernel
theorem dX5_isServer_7 : decode cX5_isServer 7 = .ok (.iaload, 1) := by decide +kernel
theorem dX5_isServer_8 : decode cX5_isServer 8 = .ok (.iconst 1, 1) := by decide +kernel
theorem dX5_isServer_9 : decode cX5_isServer 9 = .ok (.isub, 1) := by decide +kernel
theorem dX5_isServer_10 : decode cX5_isServer 10 = .ok (.invokestatic 23, 3) := by decide +kernel
theorem dX5_isServer_13 : decode cX5_isServer 13 = .ok (.ireturn, 1) := by decide +kernel
set_option maxRecDepth 20000 in
theorem ggX5_isDispatcher_X5_in : GoodIn wsX5_isDispatcher wsX5_in := goodIn_r _ [5] (by decide +kernel) (by decide +kernel)
set_option maxRecDepth 20000 in
theorem gX5_isDispatcher_X5_in : GoodIn wsX5_isDispatcher (va_wsS RX5 23 yX5_in wsX5_in) := goodIn_app (goodIn_of _ (by decide +kernel)) ggX5_isDispatcher_X5_in
theorem dX5_isDispatcher_0 : decode cX5_isDispatcher 0 = .ok (.iload_n 1, 1) := by decide +kernel
theorem dX5_isDispatcher_1 : decode cX5_isDispatcher 1 = .ok (.iconst 0, 1) := by decide +kernel
theorem dX5_isDispatcher_2 : decode cX5_isDispatcher 2 = .ok (.aload_n 0, 1) := by decide +kernel
theorem dX5_isDispatcher_3 : decode cX5_isDispatcher 3 = .ok (.getfield 7, 3) := by decide +kernel
theorem dX5_isDispatcher_6 : decode cX5_isDispatcher 6 = .ok (.iconst 5, 1) := by decide +kernel
theorem dX5_isDispatcher_7 : decode cX5_isDispatcher 7 = .ok (.iaload, 1) := by decide +kernel
theorem dX5_isDispatcher_8 : decode cX5_isDispatcher 8 = .ok (.iconst 1, 1) := by decide +kernel
theorem dX5_isDispatcher_9 : decode cX5_isDispatcher 9 = .ok (.isub, 1) := by decide +kernel
theorem dX5_isDispatcher_10 : decode cX5_isDispatcher 10 = .ok (.invokestatic 23, 3) := by decide +kernel
theorem dX5_isDispatcher_13 : decode cX5_isDispatcher 13 = .ok (.ireturn, 1) := by decide +kernel
set_option maxRecDepth 20000 in
theorem ggX5_isJob_X5_in : GoodIn wsX5_isJob wsX5_in := goodIn_r _ [5] (by decide +kernel) (by decide +kernel)
set_option maxRecDepth 20000 in
theorem gX5_isJob_X5_in : GoodIn wsX5_isJob (va_wsS RX5 23 yX5_in wsX5_in) := goodIn_app (goodIn_of _ (by decide +kernel)) ggX5_isJob_X5_in
theorem dX5_isJob_0 : decode cX5_isJob 0 = .ok (.iload_n 1, 1) := by decide +kernel
theorem dX5_isJob_1 : decode cX5_isJob 1 = .ok (.iconst 0, 1) := by decide +kernel
theorem dX5_isJob_2 : decode cX5_isJob 2 = .ok (.aload_n 0, 1) := by decide +kernel
theorem dX5_isJob_3 : decode cX5_isJob 3 = .ok (.getfield 7, 3) := by decide +kernel
theorem dX5_isJob_6 : decode cX5_isJob 6 = .ok (.bipush 6, 2) := by decide +kernel
theorem dX5_isJob_8 : decode cX5_isJob 8 = .ok (.iaload, 1) := by decide +kernel
theorem dX5_isJob_9 : decode cX5_isJob 9 = .ok (.iconst 1, 1) := by decide +kernel
theorem dX5_isJob_10 : decode cX5_isJob 10 = .ok (.isub, 1) := by decide +kernel
theorem dX5_isJob_11 : decode cX5_isJob 11 = .ok (.invokestatic 23, 3) := by decide +kernel
theorem dX5_isJob_14 : decode cX5_isJob 14 = .ok (.ireturn, 1) := by decide +kernel
theorem dX5_save_0 : decode cX5_save 0 = .ok (.aload_n 0, 1) := by decide +kernel
theorem dX5_save_1 : decode cX5_save 1 = .ok (.getfield 27, 3) := by decide +kernel
theorem dX5_save_4 : decode cX5_save 4 = .ok (.iconst 3, 1) := by decide +kernel
theorem dX5_save_5 : decode cX5_save 5 = .ok (.if_icmp .ne 44, 3) := by decide +kernel
theorem dX5_save_8 : decode cX5_save 8 = .ok (.iconst 0, 1) := by decide +kernel
theorem dX5_save_9 : decode cX5_save 9 = .ok (.istore_n 1, 1) := by decide +kernel
theorem dX5_save_10 : decode cX5_save 10 = .ok (.iload_n 1, 1) := by decide +kernel
theorem dX5_save_11 : decode cX5_save 11 = .ok (.sipush 1786, 3) := by decide +kernel
theorem dX5_save_14 : decode cX5_save 14 = .ok (.if_icmp .ge 25, 3) := by decide +kernel
theorem dX5_save_17 : decode cX5_save 17 = .ok (.aload_n 0, 1) := by decide +kernel
theorem dX5_save_18 : decode cX5_save 18 = .ok (.getfield 13, 3) := by decide +kernel
theorem dX5_save_21 : decode cX5_save 21 = .ok (.iload_n 1, 1) := by decide +kernel
theorem dX5_save_22 : decode cX5_save 22 = .ok (.aload_n 0, 1) := by decide +kernel
theorem dX5_save_23 : decode cX5_save 23 = .ok (.getfield 13, 3) := by decide +kernel
theorem dX5_save_26 : decode cX5_save 26 = .ok (.iload_n 1, 1) := by decide +kernel
theorem dX5_save_27 : decode cX5_save 27 = .ok (.sipush 893, 3) := by decide +kernel
theorem dX5_save_30 : decode cX5_save 30 = .ok (.iadd, 1) := by decide +kernel
theorem dX5_save_31 : decode cX5_save 31 = .ok (.iaload, 1) := by decide +kernel
theorem dX5_save_32 : decode cX5_save 32 = .ok (.iastore, 1) := by decide +kernel
theorem dX5_save_33 : decode cX5_save 33 = .ok (.iinc 1 1, 3) := by decide +kernel
theorem dX5_save_36 : decode cX5_save 36 = .ok (.goto (-26), 3) := by decide +kernel
theorem dX5_save_39 : decode cX5_save 39 = .ok (.aload_n 0, 1) := by decide +kernel
theorem dX5_save_40 : decode cX5_save 40 = .ok (.dup, 1) := by decide +kernel
theorem dX5_save_41 : decode cX5_save 41 = .ok (.getfield 27, 3) := by decide +kernel
theorem dX5_save_44 : decode cX5_save 44 = .ok (.iconst 1, 1) := by decide +kernel
theorem dX5_save_45 : decode cX5_save 45 = .ok (.isub, 1) := by decide +kernel
theorem dX5_save_46 : decode cX5_save 46 = .ok (.putfield 27, 3) := by decide +kernel
theorem dX5_save_49 : decode cX5_save 49 = .ok (.iconst 0, 1) := by decide +kernel
theorem dX5_save_50 : decode cX5_save 50 = .ok (.istore_n 1, 1) := by decide +kernel
theorem dX5_save_51 : decode cX5_save 51 = .ok (.iload_n 1, 1) := by decide +kernel
theorem dX5_save_52 : decode cX5_save 52 = .ok (.sipush 893, 3) := by decide +kernel
theorem dX5_save_55 : decode cX5_save 55 = .ok (.if_icmp .ge 30, 3) := by decide +kernel
theorem dX5_save_58 : decode cX5_save 58 = .ok (.aload_n 0, 1) := by decide +kernel
theorem dX5_save_59 : decode cX5_save 59 = .ok (.getfield 13, 3) := by decide +kernel
theorem dX5_save_62 : decode cX5_save 62 = .ok (.sipush 893, 3) := by decide +kernel
theorem dX5_save_65 : decode cX5_save 65 = .ok (.aload_n 0, 1) := by decide +kernel
theorem dX5_save_66 : decode cX5_save 66 = .ok (.getfield 27, 3) := by decide +kernel
theorem dX5_save_69 : decode cX5_save 69 = .ok (.imul, 1) := by decide +kernel
theorem dX5_save_70 : decode cX5_save 70 = .ok (.iload_n 1, 1) := by decide +kernel
theorem dX5_save_71 : decode cX5_save 71 = .ok (.iadd, 1) := by decide +kernel
theorem dX5_save_72 : decode cX5_save 72 = .ok (.aload_n 0, 1) := by decide +kernel
theorem dX5_save_73 : decode cX5_save 73 = .ok (.getfield 7, 3) := by decide +kernel
theorem dX5_save_76 : decode cX5_save 76 = .ok (.iload_n 1, 1) := by decide +kernel
theorem dX5_save_77 : decode cX5_save 77 = .ok (.iaload, 1) := by decide +kernel
theorem dX5_save_78 : decode cX5_save 78 = .ok (.iastore, 1) := by decide +kernel
theorem dX5_save_79 : decode cX5_save 79 = .ok (.iinc 1 1, 3) := by decide +kernel
theorem dX5_save_82 : decode cX5_save 82 = .ok (.goto (-31), 3) := by decide +kernel
theorem dX5_save_85 : decode cX5_save 85 = .ok (.aload_n 0, 1) := by decide +kernel
theorem dX5_save_86 : decode cX5_save 86 = .ok (.dup, 1) := by decide +kernel
theorem dX5_save_87 : decode cX5_save 87 = .ok (.getfield 27, 3) := by decide +kernel
theorem dX5_save_90 : decode cX5_save 90 = .ok (.iconst 1, 1) := by decide +kernel
theorem dX5_save_91 : decode cX5_save 91 = .ok (.iadd, 1) := by decide +kernel
theorem dX5_save_92 : decode cX5_save 92 = .ok (.putfield 27, 3) := by decide +kernel
theorem dX5_save_95 : decode cX5_save 95 = .ok (.return_, 1) := by decide +kernel
theorem dX5_draw_0 : decode cX5_draw 0 = .ok (.aload_n 0, 1) := by decide +kernel
theorem dX5_draw_1 : decode cX5_draw 1 = .ok (.getfield 7, 3) := by decide +kernel
theorem dX5_draw_4 : decode cX5_draw 4 = .ok (.iconst 0, 1) := by decide +kernel
theorem dX5_draw_5 : decode cX5_draw 5 = .ok (.aload_n 0, 1) := by decide +kernel
theorem dX5_draw_6 : decode cX5_draw 6 = .ok (.getfield 7, 3) := by decide +kernel
theorem dX5_draw_9 : decode cX5_draw 9 = .ok (.iconst 0, 1) := by decide +kernel
theorem dX5_draw_10 : decode cX5_draw 10 = .ok (.iaload, 1) := by decide +kernel
theorem dX5_draw_11 : decode cX5_draw 11 = .ok (.i2l, 1) := by decide +kernel
theorem dX5_draw_12 : decode cX5_draw 12 = .ok (.ldc2_w 30, 3) := by decide +kernel
theorem dX5_draw_15 : decode cX5_draw 15 = .ok (.lmul, 1) := by decide +kernel
theorem dX5_draw_16 : decode cX5_draw 16 = .ok (.ldc2_w 32, 3) := by decide +kernel
theorem dX5_draw_19 : decode cX5_draw 19 = .ok (.ladd, 1) := by decide +kernel
theorem dX5_draw_20 : decode cX5_draw 20 = .ok (.ldc2_w 34, 3) := by decide +kernel
theorem dX5_draw_23 : decode cX5_draw 23 = .ok (.lrem, 1) := by decide +kernel
theorem dX5_draw_24 : decode cX5_draw 24 = .ok (.l2i, 1) := by decide +kernel
theorem dX5_draw_25 : decode cX5_draw 25 = .ok (.iastore, 1) := by decide +kernel
theorem dX5_draw_26 : decode cX5_draw 26 = .ok (.aload_n 0, 1) := by decide +kernel
theorem dX5_draw_27 : decode cX5_draw 27 = .ok (.getfield 7, 3) := by decide +kernel
theorem dX5_draw_30 : decode cX5_draw 30 = .ok (.iconst 0, 1) := by decide +kernel
theorem dX5_draw_31 : decode cX5_draw 31 = .ok (.iaload, 1) := by decide +kernel
theorem dX5_draw_32 : decode cX5_draw 32 = .ok (.ldc 36, 2) := by decide +kernel
theorem dX5_draw_34 : decode cX5_draw 34 = .ok (.idiv, 1) := by decide +kernel
theorem dX5_draw_35 : decode cX5_draw 35 = .ok (.iload_n 1, 1) := by decide +kernel
theorem dX5_draw_36 : decode cX5_draw 36 = .ok (.irem, 1) := by decide +kernel
theorem dX5_draw_37 : decode cX5_draw 37 = .ok (.ireturn, 1) := by decide +kernel
theorem dX5_isUp_0 : decode cX5_isUp 0 = .ok (.aload_n 0, 1) := by decide +kernel
theorem dX5_isUp_1 : decode cX5_isUp 1 = .ok (.getfield 7, 3) := by decide +kernel
theorem dX5_isUp_4 : decode cX5_isUp 4 = .ok (.bipush 9, 2) := by decide +kernel
theorem dX5_isUp_6 : decode cX5_isUp 6 = .ok (.iload_n 1, 1) := by decide +kernel
theorem dX5_isUp_7 : decode cX5_isUp 7 = .ok (.iadd, 1) := by decide +kernel
theorem dX5_isUp_8 : decode cX5_isUp 8 = .ok (.iaload, 1) := by decide +kernel
theorem dX5_isUp_9 : decode cX5_isUp 9 = .ok (.iconst 1, 1) := by decide +kernel
theorem dX5_isUp_10 : decode cX5_isUp 10 = .ok (.if_icmp .ne 7, 3) := by decide +kernel
theorem dX5_isUp_13 : decode cX5_isUp 13 = .ok (.iconst 1, 1) := by decide +kernel
theorem dX5_isUp_14 : decode cX5_isUp 14 = .ok (.goto 4, 3) := by decide +kernel
theorem dX5_isUp_17 : decode cX5_isUp 17 = .ok (.iconst 0, 1) := by decide +kernel
theorem dX5_isUp_18 : decode cX5_isUp 18 = .ok (.ireturn, 1) := by decide +kernel
theorem dX5_isQueued_0 : decode cX5_isQueued 0 = .ok (.aload_n 0, 1) := by decide +kernel
theorem dX5_isQueued_1 : decode cX5_isQueued 1 = .ok (.getfield 7, 3) := by decide +kernel
theorem dX5_isQueued_4 : decode cX5_isQueued 4 = .ok (.bipush 93, 2) := by decide +kernel
theorem dX5_isQueued_6 : decode cX5_isQueued 6 = .ok (.iload_n 1, 1) := by decide +kernel
theorem dX5_isQueued_7 : decode cX5_isQueued 7 = .ok (.iadd, 1) := by decide +kernel
theorem dX5_isQueued_8 : decode cX5_isQueued 8 = .ok (.iaload, 1) := by decide +kernel
theorem dX5_isQueued_9 : decode cX5_isQueued 9 = .ok (.iload_n 2, 1) := by decide +kernel
theorem dX5_isQueued_10 : decode cX5_isQueued 10 = .ok (.if_icmp .ne 20, 3) := by decide +kernel
theorem dX5_isQueued_13 : decode cX5_isQueued 13 = .ok (.aload_n 0, 1) := by decide +kernel
theorem dX5_isQueued_14 : decode cX5_isQueued 14 = .ok (.getfield 7, 3) := by decide +kernel
theorem dX5_isQueued_17 : decode cX5_isQueued 17 = .ok (.sipush 293, 3) := by decide +kernel
theorem dX5_isQueued_20 : decode cX5_isQueued 20 = .ok (.iload_n 1, 1) := by decide +kernel
theorem dX5_isQueued_21 : decode cX5_isQueued 21 = .ok (.iadd, 1) := by decide +kernel
theorem dX5_isQueued_22 : decode cX5_isQueued 22 = .ok (.iaload, 1) := by decide +kernel
theorem dX5_isQueued_23 : decode cX5_isQueued 23 = .ok (.ifCond .le 7, 3) := by decide +kernel
theorem dX5_isQueued_26 : decode cX5_isQueued 26 = .ok (.iconst 1, 1) := by decide +kernel
theorem dX5_isQueued_27 : decode cX5_isQueued 27 = .ok (.goto 4, 3) := by decide +kernel
theorem dX5_isQueued_30 : decode cX5_isQueued 30 = .ok (.iconst 0, 1) := by decide +kernel
theorem dX5_isQueued_31 : decode cX5_isQueued 31 = .ok (.ireturn, 1) := by decide +kernel
set_option maxRecDepth 20000 in
theorem ggX5_lengthOf_X5_isQueued : GoodIn wsX5_lengthOf wsX5_isQueued := goodIn_r _ [6, 1, 7, 8, 9, 10, 11, 12] (by decide +kernel) (by decide +kernel)
set_option maxRecDepth 20000 in
theorem gX5_lengthOf_X5_isQueued : GoodIn wsX5_lengthOf (wsV RX5 37 RX5 yX5_isQueued wsX5_isQueued) := goodIn_app (goodIn_of _ (by decide +kernel)) ggX5_lengthOf_X5_isQueued
theorem dX5_lengthOf_0 : decode cX5_lengthOf 0 = .ok (.iconst 0, 1) := by decide +kernel
theorem dX5_lengthOf_1 : decode cX5_lengthOf 1 = .ok (.istore_n 2, 1) := by decide +kernel
theorem dX5_lengthOf_2 : decode cX5_lengthOf 2 = .ok (.iconst 0, 1) := by decide +kernel
theorem dX5_lengthOf_3 : decode cX5_lengthOf 3 = .ok (.istore_n 3, 1) := by decide +kernel
theorem dX5_lengthOf_4 : decode cX5_lengthOf 4 = .ok (.iload_n 3, 1) := by decide +kernel
theorem dX5_lengthOf_5 : decode cX5_lengthOf 5 = .ok (.aload_n 0, 1) := by decide +kernel
theorem dX5_lengthOf_6 : decode cX5_lengthOf 6 = .ok (.getfield 7, 3) := by decide +kernel
theorem dX5_lengthOf_9 : decode cX5_lengthOf 9 = .ok (.bipush 6, 2) := by decide +kernel
theorem dX5_lengthOf_11 : decode cX5_lengthOf 11 = .ok (.iaload, 1) := by decide +kernel
theorem dX5_lengthOf_12 : decode cX5_lengthOf 12 = .ok (.if_icmp .ge 26, 3) := by decide +kernel
theorem dX5_lengthOf_15 : decode cX5_lengthOf 15 = .ok (.iload_n 2, 1) := by decide +kernel
theorem dX5_lengthOf_16 : decode cX5_lengthOf 16 = .ok (.aload_n 0, 1) := by decide +kernel
theorem dX5_lengthOf_17 : decode cX5_lengthOf 17 = .ok (.iload_n 3, 1) := by decide +kernel
theorem dX5_lengthOf_18 : decode cX5_lengthOf 18 = .ok (.iload_n 1, 1) := by decide +kernel
theorem dX5_lengthOf_19 : decode cX5_lengthOf 19 = .ok (.invokevirtual 37, 3) := by decide +kernel
theorem dX5_lengthOf_22 : decode cX5_lengthOf 22 = .ok (.ifCond .eq 7, 3) := by decide +kernel
theorem dX5_lengthOf_25 : decode cX5_lengthOf 25 = .ok (.iconst 1, 1) := by decide +kernel
theorem dX5_lengthOf_26 : decode cX5_lengthOf 26 = .ok (.goto 4, 3) := by decide +kernel
theorem dX5_lengthOf_29 : decode cX5_lengthOf 29 = .ok (.iconst 0, 1) := by decide +kernel
theorem dX5_lengthOf_30 : decode cX5_lengthOf 30 = .ok (.iadd, 1) := by decide +kernel
theorem dX5_lengthOf_31 : decode cX5_lengthOf 31 = .ok (.istore_n 2, 1) := by decide +kernel
theorem dX5_lengthOf_32 : decode cX5_lengthOf 32 = .ok (.iinc 3 1, 3) := by decide +kernel
theorem dX5_lengthOf_35 : decode cX5_lengthOf 35 = .ok (.goto (-31), 3) := by decide +kernel
theorem dX5_lengthOf_38 : decode cX5_lengthOf 38 = .ok (.iload_n 2, 1) := by decide +kernel
theorem dX5_lengthOf_39 : decode cX5_lengthOf 39 = .ok (.ireturn, 1) := by decide +kernel
set_option maxRecDepth 20000 in
theorem ggX5_workOf_X5_isQueued : GoodIn wsX5_workOf wsX5_isQueued := goodIn_r _ [6, 1, 7, 8, 9, 10, 11, 12] (by decide +kernel) (by decide +kernel)
set_option maxRecDepth 20000 in
theorem gX5_workOf_X5_isQueued : GoodIn wsX5_workOf (wsV RX5 37 RX5 yX5_isQueued wsX5_isQueued) := goodIn_app (goodIn_of _ (by decide +kernel)) ggX5_workOf_X5_isQueued
theorem dX5_workOf_0 : decode cX5_workOf 0 = .ok (.iconst 0, 1) := by decide +kernel
theorem dX5_workOf_1 : decode cX5_workOf 1 = .ok (.istore_n 2, 1) := by decide +kernel
theorem dX5_workOf_2 : decode cX5_workOf 2 = .ok (.iconst 0, 1) := by decide +kernel
theorem dX5_workOf_3 : decode cX5_workOf 3 = .ok (.istore_n 3, 1) := by decide +kernel
theorem dX5_workOf_4 : decode cX5_workOf 4 = .ok (.iload_n 3, 1) := by decide +kernel
theorem dX5_workOf_5 : decode cX5_workOf 5 = .ok (.aload_n 0, 1) := by decide +kernel
theorem dX5_workOf_6 : decode cX5_workOf 6 = .ok (.getfield 7, 3) := by decide +kernel
theorem dX5_workOf_9 : decode cX5_workOf 9 = .ok (.bipush 6, 2) := by decide +kernel
theorem dX5_workOf_11 : decode cX5_workOf 11 = .ok (.iaload, 1) := by decide +kernel
theorem dX5_workOf_12 : decode cX5_workOf 12 = .ok (.if_icmp .ge 35, 3) := by decide +kernel
theorem dX5_workOf_15 : decode cX5_workOf 15 = .ok (.iload_n 2, 1) := by decide +kernel
theorem dX5_workOf_16 : decode cX5_workOf 16 = .ok (.aload_n 0, 1) := by decide +kernel
theorem dX5_workOf_17 : decode cX5_workOf 17 = .ok (.iload_n 3, 1) := by decide +kernel
theorem dX5_workOf_18 : decode cX5_workOf 18 = .ok (.iload_n 1, 1) := by decide +kernel
theorem dX5_workOf_19 : decode cX5_workOf 19 = .ok (.invokevirtual 37, 3) := by decide +kernel
theorem dX5_workOf_22 : decode cX5_workOf 22 = .ok (.ifCond .eq 16, 3) := by decide +kernel
theorem dX5_workOf_25 : decode cX5_workOf 25 = .ok (.aload_n 0, 1) := by decide +kernel
theorem dX5_workOf_26 : decode cX5_workOf 26 = .ok (.getfield 7, 3) := by decide +kernel
theorem dX5_workOf_29 : decode cX5_workOf 29 = .ok (.sipush 293, 3) := by decide +kernel
theorem dX5_workOf_32 : decode cX5_workOf 32 = .ok (.iload_n 3, 1) := by decide +kernel
theorem dX5_workOf_33 : decode cX5_workOf 33 = .ok (.iadd, 1) := by decide +kernel
theorem dX5_workOf_34 : decode cX5_workOf 34 = .ok (.iaload, 1) := by decide +kernel
theorem dX5_workOf_35 : decode cX5_workOf 35 = .ok (.goto 4, 3) := by decide +kernel
theorem dX5_workOf_38 : decode cX5_workOf 38 = .ok (.iconst 0, 1) := by decide +kernel
theorem dX5_workOf_39 : decode cX5_workOf 39 = .ok (.iadd, 1) := by decide +kernel
theorem dX5_workOf_40 : decode cX5_workOf 40 = .ok (.istore_n 2, 1) := by decide +kernel
theorem dX5_workOf_41 : decode cX5_workOf 41 = .ok (.iinc 3 1, 3) := by decide +kernel
theorem dX5_workOf_44 : decode cX5_workOf 44 = .ok (.goto (-40), 3) := by decide +kernel
theorem dX5_workOf_47 : decode cX5_workOf 47 = .ok (.iload_n 2, 1) := by decide +kernel
theorem dX5_workOf_48 : decode cX5_workOf 48 = .ok (.ireturn, 1) := by decide +kernel
set_option maxRecDepth 20000 in
theorem ggX5_firstJob_X5_isQueued : GoodIn wsX5_firstJob wsX5_isQueued := goodIn_r _ [6, 1, 7, 8, 9, 10, 11, 12] (by decide +kernel) (by decide +kernel)
set_option maxRecDepth 20000 in
theorem gX5_firstJob_X5_isQueued : GoodIn wsX5_firstJob (wsV RX5 37 RX5 yX5_isQueued wsX5_isQueued) := goodIn_app (goodIn_of _ (by decide +kernel)) ggX5_firstJob_X5_isQueued
theorem dX5_firstJob_0 : decode cX5_firstJob 0 = .ok (.iconst 0, 1) := by decide +kernel
theorem dX5_firstJob_1 : decode cX5_firstJob 1 = .ok (.istore_n 2, 1) := by decide +kernel
theorem dX5_firstJob_2 : decode cX5_firstJob 2 = .ok (.iload_n 2, 1) := by decide +kernel
theorem dX5_firstJob_3 : decode cX5_firstJob 3 = .ok (.aload_n 0, 1) := by decide +kernel
theorem dX5_firstJob_4 : decode cX5_firstJob 4 = .ok (.getfield 7, 3) := by decide +kernel
theorem dX5_firstJob_7 : decode cX5_firstJob 7 = .ok (.bipush 6, 2) := by decide +kernel
theorem dX5_firstJob_9 : decode cX5_firstJob 9 = .ok (.iaload, 1) := by decide +kernel
theorem dX5_firstJob_10 : decode cX5_firstJob 10 = .ok (.if_icmp .ge 20, 3) := by decide +kernel
theorem dX5_firstJob_13 : decode cX5_firstJob 13 = .ok (.aload_n 0, 1) := by decide +kernel
theorem dX5_firstJob_14 : decode cX5_firstJob 14 = .ok (.iload_n 2, 1) := by decide +kernel
theorem dX5_firstJob_15 : decode cX5_firstJob 15 = .ok (.iload_n 1, 1) := by decide +kernel
theorem dX5_firstJob_16 : decode cX5_firstJob 16 = .ok (.invokevirtual 37, 3) := by decide +kernel
theorem dX5_firstJob_19 : decode cX5_firstJob 19 = .ok (.ifCond .eq 5, 3) := by decide +kernel
theorem dX5_firstJob_22 : decode cX5_firstJob 22 = .ok (.iload_n 2, 1) := by decide +kernel
theorem dX5_firstJob_23 : decode cX5_firstJob 23 = .ok (.ireturn, 1) := by decide +kernel
theorem dX5_firstJob_24 : decode cX5_firstJob 24 = .ok (.iinc 2 1, 3) := by decide +kernel
theorem dX5_firstJob_27 : decode cX5_firstJob 27 = .ok (.goto (-25), 3) := by decide +kernel
theorem dX5_firstJob_30 : decode cX5_firstJob 30 = .ok (.iconst (-1), 1) := by decide +kernel
theorem dX5_firstJob_31 : decode cX5_firstJob 31 = .ok (.ireturn, 1) := by decide +kernel
theorem dX5_listOf_0 : decode cX5_listOf 0 = .ok (.iconst (-1), 1) := by decide +kernel
theorem dX5_listOf_1 : decode cX5_listOf 1 = .ok (.istore_n 2, 1) := by decide +kernel
theorem dX5_listOf_2 : decode cX5_listOf 2 = .ok (.iconst 0, 1) := by decide +kernel
theorem dX5_listOf_3 : decode cX5_listOf 3 = .ok (.istore_n 3, 1) := by decide +kernel
theorem dX5_listOf_4 : decode cX5_listOf 4 = .ok (.iload_n 3, 1) := by decide +kernel
theorem dX5_listOf_5 : decode cX5_listOf 5 = .ok (.aload_n 0, 1) := by decide +kernel
theorem dX5_listOf_6 : decode cX5_listOf 6 = .ok (.getfield 7, 3) := by decide +kernel
theorem dX5_listOf_9 : decode cX5_listOf 9 = .ok (.iconst 5, 1) := by decide +kernel
theorem dX5_listOf_10 : decode cX5_listOf 10 = .ok (.iaload, 1) := by decide +kernel
theorem dX5_listOf_11 : decode cX5_listOf 11 = .ok (.if_icmp .ge 57, 3) := by decide +kernel
theorem dX5_listOf_14 : decode cX5_listOf 14 = .ok (.iconst 0, 1) := by decide +kernel
theorem dX5_listOf_15 : decode cX5_listOf 15 = .ok (.istore 4, 2) := by decide +kernel
theorem dX5_listOf_17 : decode cX5_listOf 17 = .ok (.iload 4, 2) := by decide +kernel
theorem dX5_listOf_19 : decode cX5_listOf 19 = .ok (.aload_n 0, 1) := by decide +kernel
theorem dX5_listOf_20 : decode cX5_listOf 20 = .ok (.getfield 7, 3) := by decide +kernel
theorem dX5_listOf_23 : decode cX5_listOf 23 = .ok (.bipush 57, 2) := by decide +kernel
theorem dX5_listOf_25 : decode cX5_listOf 25 = .ok (.iload_n 3, 1) := by decide +kernel
theorem dX5_listOf_26 : decode cX5_listOf 26 = .ok (.iadd, 1) := by decide +kernel
theorem dX5_listOf_27 : decode cX5_listOf 27 = .ok (.iaload, 1) := by decide +kernel
theorem dX5_listOf_28 : decode cX5_listOf 28 = .ok (.if_icmp .ge 34, 3) := by decide +kernel
theorem dX5_listOf_31 : decode cX5_listOf 31 = .ok (.aload_n 0, 1) := by decide +kernel
theorem dX5_listOf_32 : decode cX5_listOf 32 = .ok (.getfield 7, 3) := by decide +kernel
theorem dX5_listOf_35 : decode cX5_listOf 35 = .ok (.bipush 61, 2) := by decide +kernel
theorem dX5_listOf_37 : decode cX5_listOf 37 = .ok (.bipush 8, 2) := by decide +kernel
theorem dX5_listOf_39 : decode cX5_listOf 39 = .ok (.iload_n 3, 1) := by decide +kernel
theorem dX5_listOf_40 : decode cX5_listOf 40 = .ok (.imul, 1) := by decide +kernel
theorem dX5_listOf_41 : decode cX5_listOf 41 = .ok (.iadd, 1) := by decide +kernel
theorem dX5_listOf_42 : decode cX5_listOf 42 = .ok (.iload 4, 2) := by decide +kernel
theorem dX5_listOf_44 : decode cX5_listOf 44 = .ok (.iadd, 1) := by decide +kernel
theorem dX5_listOf_45 : decode cX5_listOf 45 = .ok (.iaload, 1) := by decide +kernel
theorem dX5_listOf_46 : decode cX5_listOf 46 = .ok (.iload_n 1, 1) := by decide +kernel
theorem dX5_listOf_47 : decode cX5_listOf 47 = .ok (.if_icmp .ne 7, 3) := by decide +kernel
theorem dX5_listOf_50 : decode cX5_listOf 50 = .ok (.iload_n 3, 1) := by decide +kernel
theorem dX5_listOf_51 : decode cX5_listOf 51 = .ok (.goto 4, 3) := by decide +kernel
theorem dX5_listOf_54 : decode cX5_listOf 54 = .ok (.iload_n 2, 1) := by decide +kernel
theorem dX5_listOf_55 : decode cX5_listOf 55 = .ok (.istore_n 2, 1) := by decide +kernel
theorem dX5_listOf_56 : decode cX5_listOf 56 = .ok (.iinc 4 1, 3) := by decide +kernel
theorem dX5_listOf_59 : decode cX5_listOf 59 = .ok (.goto (-42), 3) := by decide +kernel
theorem dX5_listOf_62 : decode cX5_listOf 62 = .ok (.iinc 3 1, 3) := by decide +kernel
theorem dX5_listOf_65 : decode cX5_listOf 65 = .ok (.goto (-61), 3) := by decide +kernel
theorem dX5_listOf_68 : decode cX5_listOf 68 = .ok (.iload_n 2, 1) := by decide +kernel
theorem dX5_listOf_69 : decode cX5_listOf 69 = .ok (.ireturn, 1) := by decide +kernel
set_option maxRecDepth 20000 in
theorem ggX5_register_X5_draw : GoodIn wsX5_register wsX5_draw := goodIn_r _ [6, 1, 7, 8, 9, 10, 11, 12, 13, 14, 15, 16] (by decide +kernel) (by decide +kernel)
set_option maxRecDepth 20000 in
theorem gX5_register_X5_draw : GoodIn wsX5_register (wsV RX5 41 RX5 yX5_draw wsX5_draw) := goodIn_app (goodIn_of _ (by decide +kernel)) ggX5_register_X5_draw
theorem dX5_register_0 : decode cX5_register 0 = .ok (.aload_n 0, 1) := by decide +kernel
theorem dX5_register_1 : decode cX5_register 1 = .ok (.getfield 7, 3) := by decide +kernel
theorem dX5_register_4 : decode cX5_register 4 = .ok (.iconst 5, 1) := by decide +kernel
theorem dX5_register_5 : decode cX5_register 5 = .ok (.iaload, 1) := by decide +kernel
theorem dX5_register_6 : decode cX5_register 6 = .ok (.istore_n 2, 1) := by decide +kernel
theorem dX5_register_7 : decode cX5_register 7 = .ok (.iload_n 2, 1) := by decide +kernel
theorem dX5_register_8 : decode cX5_register 8 = .ok (.ifCond .ne 4, 3) := by decide +kernel
theorem dX5_register_11 : decode cX5_register 11 = .ok (.return_, 1) := by decide +kernel
theorem dX5_register_12 : decode cX5_register 12 = .ok (.iload_n 1, 1) := by decide +kernel
theorem dX5_register_13 : decode cX5_register 13 = .ok (.iload_n 2, 1) := by decide +kernel
theorem dX5_register_14 : decode cX5_register 14 = .ok (.irem, 1) := by decide +kernel
theorem dX5_register_15 : decode cX5_register 15 = .ok (.istore_n 3, 1) := by decide +kernel
theorem dX5_register_16 : decode cX5_register 16 = .ok (.aload_n 0, 1) := by decide +kernel
theorem dX5_register_17 : decode cX5_register 17 = .ok (.getfield 7, 3) := by decide +kernel
theorem dX5_register_20 : decode cX5_register 20 = .ok (.iconst 2, 1) := by decide +kernel
theorem dX5_register_21 : decode cX5_register 21 = .ok (.iaload, 1) := by decide +kernel
theorem dX5_register_22 : decode cX5_register 22 = .ok (.ifCond .ne 12, 3) := by decide +kernel
theorem dX5_register_25 : decode cX5_register 25 = .ok (.aload_n 0, 1) := by decide +kernel
theorem dX5_register_26 : decode cX5_register 26 = .ok (.iload_n 2, 1) := by decide +kernel
theorem dX5_register_27 : decode cX5_register 27 = .ok (.invokevirtual 41, 3) := by decide +kernel
theorem dX5_register_30 : decode cX5_register 30 = .ok (.istore_n 3, 1) := by decide +kernel
theorem dX5_register_31 : decode cX5_register 31 = .ok (.goto 58, 3) := by decide +kernel
theorem dX5_register_34 : decode cX5_register 34 = .ok (.aload_n 0, 1) := by decide +kernel
theorem dX5_register_35 : decode cX5_register 35 = .ok (.getfield 7, 3) := by decide +kernel
theorem dX5_register_38 : decode cX5_register 38 = .ok (.iconst 2, 1) := by decide +kernel
theorem dX5_register_39 : decode cX5_register 39 = .ok (.iaload, 1) := by decide +kernel
theorem dX5_register_40 : decode cX5_register 40 = .ok (.iconst 1, 1) := by decide +kernel
theorem dX5_register_41 : decode cX5_register 41 = .ok (.if_icmp .ne 48, 3) := by decide +kernel
theorem dX5_register_44 : decode cX5_register 44 = .ok (.aload_n 0, 1) := by decide +kernel
theorem dX5_register_45 : decode cX5_register 45 = .ok (.iload_n 2, 1) := by decide +kernel
theorem dX5_register_46 : decode cX5_register 46 = .ok (.invokevirtual 41, 3) := by decide +kernel
theorem dX5_register_49 : decode cX5_register 49 = .ok (.istore 4, 2) := by decide +kernel
theorem dX5_register_51 : decode cX5_register 51 = .ok (.aload_n 0, 1) := by decide +kernel
theorem dX5_register_52 : decode cX5_register 52 = .ok (.iload_n 2, 1) := by decide +kernel
theorem dX5_register_53 : decode cX5_register 53 = .ok (.invokevirtual 41, 3) := by decide +kernel
theorem dX5_register_56 : decode cX5_register 56 = .ok (.istore 5, 2) := by decide +kernel
theorem dX5_register_58 : decode cX5_register 58 = .ok (.aload_n 0, 1) := by decide +kernel
theorem dX5_register_59 : decode cX5_register 59 = .ok (.getfield 7, 3) := by decide +kernel
theorem dX5_register_62 : decode cX5_register 62 = .ok (.bipush 57, 2) := by decide +kernel
theorem dX5_register_64 : decode cX5_register 64 = .ok (.iload 5, 2) := by decide +kernel
theorem dX5_register_66 : decode cX5_register 66 = .ok (.iadd, 1) := by decide +kernel
theorem dX5_register_67 : decode cX5_register 67 = .ok (.iaload, 1) := by decide +kernel
theorem dX5_register_68 : decode cX5_register 68 = .ok (.aload_n 0, 1) := by decide +kernel
theorem dX5_register_69 : decode cX5_register 69 = .ok (.getfield 7, 3) := by decide +kernel
theorem dX5_register_72 : decode cX5_register 72 = .ok (.bipush 57, 2) := by decide +kernel
theorem dX5_register_74 : decode cX5_register 74 = .ok (.iload 4, 2) := by decide +kernel
theorem dX5_register_76 : decode cX5_register 76 = .ok (.iadd, 1) := by decide +kernel
theorem dX5_register_77 : decode cX5_register 77 = .ok (.iaload, 1) := by decide +kernel
theorem dX5_register_78 : decode cX5_register 78 = .ok (.if_icmp .ge 8, 3) := by decide +kernel
theorem dX5_register_81 : decode cX5_register 81 = .ok (.iload 5, 2) := by decide +kernel
theorem dX5_register_83 : decode cX5_register 83 = .ok (.goto 5, 3) := by decide +kernel
theorem dX5_register_86 : decode cX5_register 86 = .ok (.iload 4, 2) := by decide +kernel
theorem dX5_register_88 : decode cX5_register 88 = .ok (.istore_n 3, 1) := by decide +kernel
theorem dX5_register_89 : decode cX5_register 89 = .ok (.aload_n 0, 1) := by decide +kernel
theorem dX5_register_90 : decode cX5_register 90 = .ok (.getfield 7, 3) := by decide +kernel
theorem dX5_register_93 : decode cX5_register 93 = .ok (.bipush 61, 2) := by decide +kernel
theorem dX5_register_95 : decode cX5_register 95 = .ok (.bipush 8, 2) := by decide +kernel
theorem dX5_register_97 : decode cX5_register 97 = .ok (.iload_n 3, 1) := by decide +kernel
theorem dX5_register_98 : decode cX5_register 98 = .ok (.imul, 1) := by decide +kernel
theorem dX5_register_99 : decode cX5_register 99 = .ok (.iadd, 1) := by decide +kernel
theorem dX5_register_100 : decode cX5_register 100 = .ok (.aload_n 0, 1) := by decide +kernel
theorem dX5_register_101 : decode cX5_register 101 = .ok (.getfield 7, 3) := by decide +kernel
theorem dX5_register_104 : decode cX5_register 104 = .ok (.bipush 57, 2) := by decide +kernel
theorem dX5_register_106 : decode cX5_register 106 = .ok (.iload_n 3, 1) := by decide +kernel
theorem dX5_register_107 : decode cX5_register 107 = .ok (.iadd, 1) := by decide +kernel
theorem dX5_register_108 : decode cX5_register 108 = .ok (.iaload, 1) := by decide +kernel
theorem dX5_register_109 : decode cX5_register 109 = .ok (.iadd, 1) := by decide +kernel
theorem dX5_register_110 : decode cX5_register 110 = .ok (.iload_n 1, 1) := by decide +kernel
theorem dX5_register_111 : decode cX5_register 111 = .ok (.iastore, 1) := by decide +kernel
theorem dX5_register_112 : decode cX5_register 112 = .ok (.aload_n 0, 1) := by decide +kernel
theorem dX5_register_113 : decode cX5_register 113 = .ok (.getfield 7, 3) := by decide +kernel
theorem dX5_register_116 : decode cX5_register 116 = .ok (.bipush 57, 2) := by decide +kernel
theorem dX5_register_118 : decode cX5_register 118 = .ok (.iload_n 3, 1) := by decide +kernel
theorem dX5_register_119 : decode cX5_register 119 = .ok (.iadd, 1) := by decide +kernel
theorem dX5_register_120 : decode cX5_register 120 = .ok (.dup2, 1) := by decide +kernel
theorem dX5_register_121 : decode cX5_register 121 = .ok (.iaload, 1) := by decide +kernel
theorem dX5_register_122 : decode cX5_register 122 = .ok (.iconst 1, 1) := by decide +kernel
theorem dX5_register_123 : decode cX5_register 123 = .ok (.iadd, 1) := by decide +kernel
theorem dX5_register_124 : decode cX5_register 124 = .ok (.iastore, 1) := by decide +kernel
theorem dX5_register_125 : decode cX5_register 125 = .ok (.return_, 1) := by decide +kernel
set_option maxRecDepth 20000 in
theorem ggX5_leave_X5_listOf : GoodIn wsX5_leave wsX5_listOf := goodIn_r _ [6, 1, 7, 8, 9, 10, 11, 12] (by decide +kernel) (by decide +kernel)
set_option maxRecDepth 20000 in
theorem gX5_leave_X5_listOf : GoodIn wsX5_leave (wsV RX5 45 RX5 yX5_listOf wsX5_listOf) := goodIn_app (goodIn_of _ (by decide +kernel)) ggX5_leave_X5_listOf
theorem dX5_leave_0 : decode cX5_leave 0 = .ok (.aload_n 0, 1) := by decide +kernel
theorem dX5_leave_1 : decode cX5_leave 1 = .ok (.iload_n 1, 1) := by decide +kernel
theorem dX5_leave_2 : decode cX5_leave 2 = .ok (.invokevirtual 45, 3) := by decide +kernel
theorem dX5_leave_5 : decode cX5_leave 5 = .ok (.istore_n 2, 1) := by decide +kernel
theorem dX5_leave_6 : decode cX5_leave 6 = .ok (.iload_n 2, 1) := by decide +kernel
theorem dX5_leave_7 : decode cX5_leave 7 = .ok (.iconst (-1), 1) := by decide +kernel
theorem dX5_leave_8 : decode cX5_leave 8 = .ok (.if_icmp .ne 4, 3) := by decide +kernel
theorem dX5_leave_11 : decode cX5_leave 11 = .ok (.return_, 1) := by decide +kernel
theorem dX5_leave_12 : decode cX5_leave 12 = .ok (.iconst 0, 1) := by decide +kernel
theorem dX5_leave_13 : decode cX5_leave 13 = .ok (.istore_n 3, 1) := by decide +kernel
theorem dX5_leave_14 : decode cX5_leave 14 = .ok (.iconst 0, 1) := by decide +kernel
theorem dX5_leave_15 : decode cX5_leave 15 = .ok (.istore 4, 2) := by decide +kernel
theorem dX5_leave_17 : decode cX5_leave 17 = .ok (.iload 4, 2) := by decide +kernel
theorem dX5_leave_19 : decode cX5_leave 19 = .ok (.aload_n 0, 1) := by decide +kernel
theorem dX5_leave_20 : decode cX5_leave 20 = .ok (.getfield 7, 3) := by decide +kernel
theorem dX5_leave_23 : decode cX5_leave 23 = .ok (.bipush 57, 2) := by decide +kernel
theorem dX5_leave_25 : decode cX5_leave 25 = .ok (.iload_n 2, 1) := by decide +kernel
theorem dX5_leave_26 : decode cX5_leave 26 = .ok (.iadd, 1) := by decide +kernel
theorem dX5_leave_27 : decode cX5_leave 27 = .ok (.iaload, 1) := by decide +kernel
theorem dX5_leave_28 : decode cX5_leave 28 = .ok (.if_icmp .ge 56, 3) := by decide +kernel
theorem dX5_leave_31 : decode cX5_leave 31 = .ok (.aload_n 0, 1) := by decide +kernel
theorem dX5_leave_32 : decode cX5_leave 32 = .ok (.getfield 7, 3) := by decide +kernel
theorem dX5_leave_35 : decode cX5_leave 35 = .ok (.bipush 61, 2) := by decide +kernel
theorem dX5_leave_37 : decode cX5_leave 37 = .ok (.bipush 8, 2) := by decide +kernel
theorem dX5_leave_39 : decode cX5_leave 39 = .ok (.iload_n 2, 1) := by decide +kernel
theorem dX5_leave_40 : decode cX5_leave 40 = .ok (.imul, 1) := by decide +kernel
theorem dX5_leave_41 : decode cX5_leave 41 = .ok (.iadd, 1) := by decide +kernel
theorem dX5_leave_42 : decode cX5_leave 42 = .ok (.iload 4, 2) := by decide +kernel
theorem dX5_leave_44 : decode cX5_leave 44 = .ok (.iadd, 1) := by decide +kernel
theorem dX5_leave_45 : decode cX5_leave 45 = .ok (.iaload, 1) := by decide +kernel
theorem dX5_leave_46 : decode cX5_leave 46 = .ok (.istore 5, 2) := by decide +kernel
theorem dX5_leave_48 : decode cX5_leave 48 = .ok (.aload_n 0, 1) := by decide +kernel
theorem dX5_leave_49 : decode cX5_leave 49 = .ok (.getfield 7, 3) := by decide +kernel
theorem dX5_leave_52 : decode cX5_leave 52 = .ok (.bipush 61, 2) := by decide +kernel
theorem dX5_leave_54 : decode cX5_leave 54 = .ok (.bipush 8, 2) := by decide +kernel
theorem dX5_leave_56 : decode cX5_leave 56 = .ok (.iload_n 2, 1) := by decide +kernel
theorem dX5_leave_57 : decode cX5_leave 57 = .ok (.imul, 1) := by decide +kernel
theorem dX5_leave_58 : decode cX5_leave 58 = .ok (.iadd, 1) := by decide +kernel
theorem dX5_leave_59 : decode cX5_leave 59 = .ok (.iload_n 3, 1) := by decide +kernel
theorem dX5_leave_60 : decode cX5_leave 60 = .ok (.iadd, 1) := by decide +kernel
theorem dX5_leave_61 : decode cX5_leave 61 = .ok (.iload 5, 2) := by decide +kernel
theorem dX5_leave_63 : decode cX5_leave 63 = .ok (.iastore, 1) := by decide +kernel
theorem dX5_leave_64 : decode cX5_leave 64 = .ok (.iload_n 3, 1) := by decide +kernel
theorem dX5_leave_65 : decode cX5_leave 65 = .ok (.iload 5, 2) := by decide +kernel
theorem dX5_leave_67 : decode cX5_leave 67 = .ok (.iload_n 1, 1) := by decide +kernel
theorem dX5_leave_68 : decode cX5_leave 68 = .ok (.if_icmp .ne 7, 3) := by decide +kernel
theorem dX5_leave_71 : decode cX5_leave 71 = .ok (.iconst 0, 1) := by decide +kernel
theorem dX5_leave_72 : decode cX5_leave 72 = .ok (.goto 4, 3) := by decide +kernel
theorem dX5_leave_75 : decode cX5_leave 75 = .ok (.iconst 1, 1) := by decide +kernel
theorem dX5_leave_76 : decode cX5_leave 76 = .ok (.iadd, 1) := by decide +kernel
theorem dX5_leave_77 : decode cX5_leave 77 = .ok (.istore_n 3, 1) := by decide +kernel
theorem dX5_leave_78 : decode cX5_leave 78 = .ok (.iinc 4 1, 3) := by decide +kernel
theorem dX5_leave_81 : decode cX5_leave 81 = .ok (.goto (-64), 3) := by decide +kernel
theorem dX5_leave_84 : decode cX5_leave 84 = .ok (.aload_n 0, 1) := by decide +kernel
theorem dX5_leave_85 : decode cX5_leave 85 = .ok (.getfield 7, 3) := by decide +kernel
theorem dX5_leave_88 : decode cX5_leave 88 = .ok (.bipush 57, 2) := by decide +kernel
theorem dX5_leave_90 : decode cX5_leave 90 = .ok (.iload_n 2, 1) := by decide +kernel
theorem dX5_leave_91 : decode cX5_leave 91 = .ok (.iadd, 1) := by decide +kernel
theorem dX5_leave_92 : decode cX5_leave 92 = .ok (.iload_n 3, 1) := by decide +kernel
theorem dX5_leave_93 : decode cX5_leave 93 = .ok (.iastore, 1) := by decide +kernel
theorem dX5_leave_94 : decode cX5_leave 94 = .ok (.return_, 1) := by decide +kernel
set_option maxRecDepth 20000 in
theorem ggX5_addServer_X5_refuse : GoodIn wsX5_addServer wsX5_refuse := goodIn_r _ [7, 1, 26, 27, 28, 29, 30, 31] (by decide +kernel) (by decide +kernel)
set_option maxRecDepth 20000 in
theorem gX5_addServer_X5_refuse : GoodIn wsX5_addServer (wsV RX5 48 RX5 yX5_refuse wsX5_refuse) := goodIn_app (goodIn_of _ (by decide +kernel)) ggX5_addServer_X5_refuse
set_option maxRecDepth 20000 in
theorem ggX5_addServer_X5_save : GoodIn wsX5_addServer wsX5_save := goodIn_r _ [11, 12, 13, 2, 26, 27, 28, 29, 30, 31] (by decide +kernel) (by decide +kernel)
set_option maxRecDepth 20000 in
theorem gX5_addServer_X5_save : GoodIn wsX5_addServer (wsV RX5 51 RX5 yX5_save wsX5_save) := goodIn_app (goodIn_of _ (by decide +kernel)) ggX5_addServer_X5_save
set_option maxRecDepth 20000 in
theorem ggX5_addServer_X5_register : GoodIn wsX5_addServer wsX5_register := goodIn_r _ [17, 2, 18, 19, 20, 6, 21, 22, 23, 24, 25, 26, 27, 28, 29, 30, 31] (by decide +kernel) (by decide +kernel)
set_option maxRecDepth 20000 in
theorem gX5_addServer_X5_register : GoodIn wsX5_addServer (wsV RX5 54 RX5 yX5_register wsX5_register) := goodIn_app (goodIn_of _ (by decide +kernel)) ggX5_addServer_X5_register
theorem dX5_addServer_0 : decode cX5_addServer 0 = .ok (.aload_n 0, 1) := by decide +kernel
theorem dX5_addServer_1 : decode cX5_addServer 1 = .ok (.iconst 0, 1) := by decide +kernel
theorem dX5_addServer_2 : decode cX5_addServer 2 = .ok (.putfield 19, 3) := by decide +kernel
theorem dX5_addServer_5 : decode cX5_addServer 5 = .ok (.aload_n 0, 1) := by decide +kernel
theorem dX5_addServer_6 : decode cX5_addServer 6 = .ok (.getfield 7, 3) := by decide +kernel
theorem dX5_addServer_9 : decode cX5_addServer 9 = .ok (.iconst 4, 1) := by decide +kernel
theorem dX5_addServer_10 : decode cX5_addServer 10 = .ok (.iaload, 1) := by decide +kernel
theorem dX5_addServer_11 : decode cX5_addServer 11 = .ok (.bipush 8, 2) := by decide +kernel
theorem dX5_addServer_13 : decode cX5_addServer 13 = .ok (.if_icmp .ne 9, 3) := by decide +kernel
theorem dX5_addServer_16 : decode cX5_addServer 16 = .ok (.aload_n 0, 1) := by decide +kernel
theorem dX5_addServer_17 : decode cX5_addServer 17 = .ok (.iconst 1, 1) := by decide +kernel
theorem dX5_addServer_18 : decode cX5_addServer 18 = .ok (.invokevirtual 48, 3) := by decide +kernel
theorem dX5_addServer_21 : decode cX5_addServer 21 = .ok (.ireturn, 1) := by decide +kernel
theorem dX5_addServer_22 : decode cX5_addServer 22 = .ok (.aload_n 0, 1) := by decide +kernel
theorem dX5_addServer_23 : decode cX5_addServer 23 = .ok (.invokevirtual 51, 3) := by decide +kernel
theorem dX5_addServer_26 : decode cX5_addServer 26 = .ok (.aload_n 0, 1) := by decide +kernel
theorem dX5_addServer_27 : decode cX5_addServer 27 = .ok (.getfield 7, 3) := by decide +kernel
theorem dX5_addServer_30 : decode cX5_addServer 30 = .ok (.iconst 4, 1) := by decide +kernel
theorem dX5_addServer_31 : decode cX5_addServer 31 = .ok (.iaload, 1) := by decide +kernel
theorem dX5_addServer_32 : decode cX5_addServer 32 = .ok (.istore_n 1, 1) := by decide +kernel
theorem dX5_addServer_33 : decode cX5_addServer 33 = .ok (.aload_n 0, 1) := by decide +kernel
theorem dX5_addServer_34 : decode cX5_addServer 34 = .ok (.getfield 7, 3) := by decide +kernel
theorem dX5_addServer_37 : decode cX5_addServer 37 = .ok (.iconst 4, 1) := by decide +kernel
theorem dX5_addServer_38 : decode cX5_addServer 38 = .ok (.dup2, 1) := by decide +kernel
theorem dX5_addServer_39 : decode cX5_addServer 39 = .ok (.iaload, 1) := by decide +kernel
theorem dX5_addServer_40 : decode cX5_addServer 40 = .ok (.iconst 1, 1) := by decide +kernel
theorem dX5_addServer_41 : decode cX5_addServer 41 = .ok (.iadd, 1) := by decide +kernel
theorem dX5_addServer_42 : decode cX5_addServer 42 = .ok (.iastore, 1) := by decide +kernel
theorem dX5_addServer_43 : decode cX5_addServer 43 = .ok (.aload_n 0, 1) := by decide +kernel
theorem dX5_addServer_44 : decode cX5_addServer 44 = .ok (.getfield 7, 3) := by decide +kernel
theorem dX5_addServer_47 : decode cX5_addServer 47 = .ok (.bipush 9, 2) := by decide +kernel
theorem dX5_addServer_49 : decode cX5_addServer 49 = .ok (.iload_n 1, 1) := by decide +kernel
theorem dX5_addServer_50 : decode cX5_addServer 50 = .ok (.iadd, 1) := by decide +kernel
theorem dX5_addServer_51 : decode cX5_addServer 51 = .ok (.iconst 1, 1) := by decide +kernel
theorem dX5_addServer_52 : decode cX5_addServer 52 = .ok (.iastore, 1) := by decide +kernel
theorem dX5_addServer_53 : decode cX5_addServer 53 = .ok (.iconst 0, 1) := by decide +kernel
theorem dX5_addServer_54 : decode cX5_addServer 54 = .ok (.istore_n 2, 1) := by decide +kernel
theorem dX5_addServer_55 : decode cX5_addServer 55 = .ok (.iload_n 2, 1) := by decide +kernel
theorem dX5_addServer_56 : decode cX5_addServer 56 = .ok (.iconst 4, 1) := by decide +kernel
theorem dX5_addServer_57 : decode cX5_addServer 57 = .ok (.if_icmp .ge 24, 3) := by decide +kernel
theorem dX5_addServer_60 : decode cX5_addServer 60 = .ok (.aload_n 0, 1) := by decide +kernel
theorem dX5_addServer_61 : decode cX5_addServer 61 = .ok (.getfield 7, 3) := by decide +kernel
theorem dX5_addServer_64 : decode cX5_addServer 64 = .ok (.bipush 25, 2) := by decide +kernel
theorem dX5_addServer_66 : decode cX5_addServer 66 = .ok (.bipush 8, 2) := by decide +kernel
theorem dX5_addServer_68 : decode cX5_addServer 68 = .ok (.iload_n 2, 1) := by decide +kernel
theorem dX5_addServer_69 : decode cX5_addServer 69 = .ok (.imul, 1) := by decide +kernel
theorem dX5_addServer_70 : decode cX5_addServer 70 = .ok (.iadd, 1) := by decide +kernel
theorem dX5_addServer_71 : decode cX5_addServer 71 = .ok (.iload_n 1, 1) := by decide +kernel
theorem dX5_addServer_72 : decode cX5_addServer 72 = .ok (.iadd, 1) := by decide +kernel
theorem dX5_addServer_73 : decode cX5_addServer 73 = .ok (.iconst 0, 1) := by decide +kernel
theorem dX5_addServer_74 : decode cX5_addServer 74 = .ok (.iastore, 1) := by decide +kernel
theorem dX5_addServer_75 : decode cX5_addServer 75 = .ok (.iinc 2 1, 3) := by decide +kernel
theorem dX5_addServer_78 : decode cX5_addServer 78 = .ok (.goto (-23), 3) := by decide +kernel
theorem dX5_addServer_81 : decode cX5_addServer 81 = .ok (.aload_n 0, 1) := by decide +kernel
theorem dX5_addServer_82 : decode cX5_addServer 82 = .ok (.iload_n 1, 1) := by decide +kernel
theorem dX5_addServer_83 : decode cX5_addServer 83 = .ok (.invokevirtual 54, 3) := by decide +kernel
theorem dX5_addServer_86 : decode cX5_addServer 86 = .ok (.iload_n 1, 1) := by decide +kernel
theorem dX5_addServer_87 : decode cX5_addServer 87 = .ok (.ireturn, 1) := by decide +kernel
set_option maxRecDepth 20000 in
theorem ggX5_addDispatcher_X5_in : GoodIn wsX5_addDispatcher wsX5_in := goodIn_r _ [6] (by decide +kernel) (by decide +kernel)
set_option maxRecDepth 20000 in
theorem gX5_addDispatcher_X5_in : GoodIn wsX5_addDispatcher (va_wsS RX5 23 yX5_in wsX5_in) := goodIn_app (goodIn_of _ (by decide +kernel)) ggX5_addDispatcher_X5_in
set_option maxRecDepth 20000 in
theorem ggX5_addDispatcher_X5_refuse : GoodIn wsX5_addDispatcher wsX5_refuse := goodIn_r _ [10, 1, 17, 18, 19, 20, 21, 22] (by decide +kernel) (by decide +kernel)
set_option maxRecDepth 20000 in
theorem gX5_addDispatcher_X5_refuse : GoodIn wsX5_addDispatcher (wsV RX5 48 RX5 yX5_refuse wsX5_refuse) := goodIn_app (goodIn_of _ (by decide +kernel)) ggX5_addDispatcher_X5_refuse
set_option maxRecDepth 20000 in
theorem ggX5_addDispatcher_X5_save : GoodIn wsX5_addDispatcher wsX5_save := goodIn_r _ [14, 15, 16, 2, 17, 18, 19, 20, 21, 22] (by decide +kernel) (by decide +kernel)
set_option maxRecDepth 20000 in
theorem gX5_addDispatcher_X5_save : GoodIn wsX5_addDispatcher (wsV RX5 51 RX5 yX5_save wsX5_save) := goodIn_app (goodIn_of _ (by decide +kernel)) ggX5_addDispatcher_X5_save
theorem dX5_addDispatcher_0 : decode cX5_addDispatcher 0 = .ok (.aload_n 0, 1) := by decide +kernel
theorem dX5_addDispatcher_1 : decode cX5_addDispatcher 1 = .ok (.iconst 0, 1) := by decide +kernel
theorem dX5_addDispatcher_2 : decode cX5_addDispatcher 2 = .ok (.putfield 19, 3) := by decide +kernel
theorem dX5_addDispatcher_5 : decode cX5_addDispatcher 5 = .ok (.iload_n 1, 1) := by decide +kernel
theorem dX5_addDispatcher_6 : decode cX5_addDispatcher 6 = .ok (.iconst 0, 1) := by decide +kernel
theorem dX5_addDispatcher_7 : decode cX5_addDispatcher 7 = .ok (.iconst 4, 1) := by decide +kernel
theorem dX5_addDispatcher_8 : decode cX5_addDispatcher 8 = .ok (.invokestatic 23, 3) := by decide +kernel
theorem dX5_addDispatcher_11 : decode cX5_addDispatcher 11 = .ok (.ifCond .ne 9, 3) := by decide +kernel
theorem dX5_addDispatcher_14 : decode cX5_addDispatcher 14 = .ok (.aload_n 0, 1) := by decide +kernel
theorem dX5_addDispatcher_15 : decode cX5_addDispatcher 15 = .ok (.iconst 1, 1) := by decide +kernel
theorem dX5_addDispatcher_16 : decode cX5_addDispatcher 16 = .ok (.invokevirtual 48, 3) := by decide +kernel
theorem dX5_addDispatcher_19 : decode cX5_addDispatcher 19 = .ok (.ireturn, 1) := by decide +kernel
theorem dX5_addDispatcher_20 : decode cX5_addDispatcher 20 = .ok (.aload_n 0, 1) := by decide +kernel
theorem dX5_addDispatcher_21 : decode cX5_addDispatcher 21 = .ok (.getfield 7, 3) := by decide +kernel
theorem dX5_addDispatcher_24 : decode cX5_addDispatcher 24 = .ok (.iconst 5, 1) := by decide +kernel
theorem dX5_addDispatcher_25 : decode cX5_addDispatcher 25 = .ok (.iaload, 1) := by decide +kernel
theorem dX5_addDispatcher_26 : decode cX5_addDispatcher 26 = .ok (.iconst 4, 1) := by decide +kernel
theorem dX5_addDispatcher_27 : decode cX5_addDispatcher 27 = .ok (.if_icmp .ne 9, 3) := by decide +kernel
theorem dX5_addDispatcher_30 : decode cX5_addDispatcher 30 = .ok (.aload_n 0, 1) := by decide +kernel
theorem dX5_addDispatcher_31 : decode cX5_addDispatcher 31 = .ok (.iconst 2, 1) := by decide +kernel
theorem dX5_addDispatcher_32 : decode cX5_addDispatcher 32 = .ok (.invokevirtual 48, 3) := by decide +kernel
theorem dX5_addDispatcher_35 : decode cX5_addDispatcher 35 = .ok (.ireturn, 1) := by decide +kernel
theorem dX5_addDispatcher_36 : decode cX5_addDispatcher 36 = .ok (.aload_n 0, 1) := by decide +kernel
theorem dX5_addDispatcher_37 : decode cX5_addDispatcher 37 = .ok (.invokevirtual 51, 3) := by decide +kernel
theorem dX5_addDispatcher_40 : decode cX5_addDispatcher 40 = .ok (.aload_n 0, 1) := by decide +kernel
theorem dX5_addDispatcher_41 : decode cX5_addDispatcher 41 = .ok (.getfield 7, 3) := by decide +kernel
theorem dX5_addDispatcher_44 : decode cX5_addDispatcher 44 = .ok (.iconst 5, 1) := by decide +kernel
theorem dX5_addDispatcher_45 : decode cX5_addDispatcher 45 = .ok (.iaload, 1) := by decide +kernel
theorem dX5_addDispatcher_46 : decode cX5_addDispatcher 46 = .ok (.istore_n 2, 1) := by decide +kernel
theorem dX5_addDispatcher_47 : decode cX5_addDispatcher 47 = .ok (.aload_n 0, 1) := by decide +kernel
theorem dX5_addDispatcher_48 : decode cX5_addDispatcher 48 = .ok (.getfield 7, 3) := by decide +kernel
theorem dX5_addDispatcher_51 : decode cX5_addDispatcher 51 = .ok (.bipush 17, 2) := by decide +kernel
theorem dX5_addDispatcher_53 : decode cX5_addDispatcher 53 = .ok (.iload_n 2, 1) := by decide +kernel
theorem dX5_addDispatcher_54 : decode cX5_addDispatcher 54 = .ok (.iadd, 1) := by decide +kernel
theorem dX5_addDispatcher_55 : decode cX5_addDispatcher 55 = .ok (.iload_n 1, 1) := by decide +kernel
theorem dX5_addDispatcher_56 : decode cX5_addDispatcher 56 = .ok (.iastore, 1) := by decide +kernel
theorem dX5_addDispatcher_57 : decode cX5_addDispatcher 57 = .ok (.aload_n 0, 1) := by decide +kernel
theorem dX5_addDispatcher_58 : decode cX5_addDispatcher 58 = .ok (.getfield 7, 3) := by decide +kernel
theorem dX5_addDispatcher_61 : decode cX5_addDispatcher 61 = .ok (.iconst 5, 1) := by decide +kernel
theorem dX5_addDispatcher_62 : decode cX5_addDispatcher 62 = .ok (.dup2, 1) := by decide +kernel
theorem dX5_addDispatcher_63 : decode cX5_addDispatcher 63 = .ok (.iaload, 1) := by decide +kernel
theorem dX5_addDispatcher_64 : decode cX5_addDispatcher 64 = .ok (.iconst 1, 1) := by decide +kernel
theorem dX5_addDispatcher_65 : decode cX5_addDispatcher 65 = .ok (.iadd, 1) := by decide +kernel
theorem dX5_addDispatcher_66 : decode cX5_addDispatcher 66 = .ok (.iastore, 1) := by decide +kernel
theorem dX5_addDispatcher_67 : decode cX5_addDispatcher 67 = .ok (.iload_n 2, 1) := by decide +kernel
theorem dX5_addDispatcher_68 : decode cX5_addDispatcher 68 = .ok (.ireturn, 1) := by decide +kernel
set_option maxRecDepth 20000 in
theorem ggX5_setPolicy_X5_isDispatcher : GoodIn wsX5_setPolicy wsX5_isDispatcher := goodIn_r _ [7, 2, 8, 9, 6, 10, 21, 22, 23, 24, 25, 26] (by decide +kernel) (by decide +kernel)
set_option maxRecDepth 20000 in
theorem gX5_setPolicy_X5_isDispatcher : GoodIn wsX5_setPolicy (wsV RX5 58 RX5 yX5_isDispatcher wsX5_isDispatcher) := goodIn_app (goodIn_of _ (by decide +kernel)) ggX5_setPolicy_X5_isDispatcher
set_option maxRecDepth 20000 in
theorem ggX5_setPolicy_X5_in : GoodIn wsX5_setPolicy wsX5_in := goodIn_r _ [10] (by decide +kernel) (by decide +kernel)
set_option maxRecDepth 20000 in
theorem gX5_setPolicy_X5_in : GoodIn wsX5_setPolicy (va_wsS RX5 23 yX5_in wsX5_in) := goodIn_app (goodIn_of _ (by decide +kernel)) ggX5_setPolicy_X5_in
set_option maxRecDepth 20000 in
theorem ggX5_setPolicy_X5_refuse : GoodIn wsX5_setPolicy wsX5_refuse := goodIn_r _ [14, 1, 21, 22, 23, 24, 25, 26] (by decide +kernel) (by decide +kernel)
set_option maxRecDepth 20000 in
theorem gX5_setPolicy_X5_refuse : GoodIn wsX5_setPolicy (wsV RX5 48 RX5 yX5_refuse wsX5_refuse) := goodIn_app (goodIn_of _ (by decide +kernel)) ggX5_setPolicy_X5_refuse
set_option maxRecDepth 20000 in
theorem ggX5_setPolicy_X5_save : GoodIn wsX5_setPolicy wsX5_save := goodIn_r _ [18, 19, 20, 2, 21, 22, 23, 24, 25, 26] (by decide +kernel) (by decide +kernel)
set_option maxRecDepth 20000 in
theorem gX5_setPolicy_X5_save : GoodIn wsX5_setPolicy (wsV RX5 51 RX5 yX5_save wsX5_save) := goodIn_app (goodIn_of _ (by decide +kernel)) ggX5_setPolicy_X5_save
theorem dX5_setPolicy_0 : decode cX5_setPolicy 0 = .ok (.aload_n 0, 1) := by decide +kernel
theorem dX5_setPolicy_1 : decode cX5_setPolicy 1 = .ok (.iconst 0, 1) := by decide +kernel
theorem dX5_setPolicy_2 : decode cX5_setPolicy 2 = .ok (.putfield 19, 3) := by decide +kernel
theorem dX5_setPolicy_5 : decode cX5_setPolicy 5 = .ok (.aload_n 0, 1) := by decide +kernel
theorem dX5_setPolicy_6 : decode cX5_setPolicy 6 = .ok (.iload_n 1, 1) := by decide +kernel
theorem dX5_setPolicy_7 : decode cX5_setPolicy 7 = .ok (.invokevirtual 58, 3) := by decide +kernel
theorem dX5_setPolicy_10 : decode cX5_setPolicy 10 = .ok (.ifCond .eq 12, 3) := by decide +kernel
theorem dX5_setPolicy_13 : decode cX5_setPolicy 13 = .ok (.iload_n 2, 1) := by decide +kernel
theorem dX5_setPolicy_14 : decode cX5_setPolicy 14 = .ok (.iconst 0, 1) := by decide +kernel
theorem dX5_setPolicy_15 : decode cX5_setPolicy 15 = .ok (.iconst 4, 1) := by decide +kernel
theorem dX5_setPolicy_16 : decode cX5_setPolicy 16 = .ok (.invokestatic 23, 3) := by decide +kernel
theorem dX5_setPolicy_19 : decode cX5_setPolicy 19 = .ok (.ifCond .ne 9, 3) := by decide +kernel
theorem dX5_setPolicy_22 : decode cX5_setPolicy 22 = .ok (.aload_n 0, 1) := by decide +kernel
theorem dX5_setPolicy_23 : decode cX5_setPolicy 23 = .ok (.iconst 1, 1) := by decide +kernel
theorem dX5_setPolicy_24 : decode cX5_setPolicy 24 = .ok (.invokevirtual 48, 3) := by decide +kernel
theorem dX5_setPolicy_27 : decode cX5_setPolicy 27 = .ok (.ireturn, 1) := by decide +kernel
theorem dX5_setPolicy_28 : decode cX5_setPolicy 28 = .ok (.aload_n 0, 1) := by decide +kernel
theorem dX5_setPolicy_29 : decode cX5_setPolicy 29 = .ok (.invokevirtual 51, 3) := by decide +kernel
theorem dX5_setPolicy_32 : decode cX5_setPolicy 32 = .ok (.aload_n 0, 1) := by decide +kernel
theorem dX5_setPolicy_33 : decode cX5_setPolicy 33 = .ok (.getfield 7, 3) := by decide +kernel
theorem dX5_setPolicy_36 : decode cX5_setPolicy 36 = .ok (.bipush 17, 2) := by decide +kernel
theorem dX5_setPolicy_38 : decode cX5_setPolicy 38 = .ok (.iload_n 1, 1) := by decide +kernel
theorem dX5_setPolicy_39 : decode cX5_setPolicy 39 = .ok (.iadd, 1) := by decide +kernel
theorem dX5_setPolicy_40 : decode cX5_setPolicy 40 = .ok (.iaload, 1) := by decide +kernel
theorem dX5_setPolicy_41 : decode cX5_setPolicy 41 = .ok (.istore_n 3, 1) := by decide +kernel
theorem dX5_setPolicy_42 : decode cX5_setPolicy 42 = .ok (.aload_n 0, 1) := by decide +kernel
theorem dX5_setPolicy_43 : decode cX5_setPolicy 43 = .ok (.getfield 7, 3) := by decide +kernel
theorem dX5_setPolicy_46 : decode cX5_setPolicy 46 = .ok (.bipush 17, 2) := by decide +kernel
theorem dX5_setPolicy_48 : decode cX5_setPolicy 48 = .ok (.iload_n 1, 1) := by decide +kernel
theorem dX5_setPolicy_49 : decode cX5_setPolicy 49 = .ok (.iadd, 1) := by decide +kernel
theorem dX5_setPolicy_50 : decode cX5_setPolicy 50 = .ok (.iload_n 2, 1) := by decide +kernel
theorem dX5_setPolicy_51 : decode cX5_setPolicy 51 = .ok (.iastore, 1) := by decide +kernel
theorem dX5_setPolicy_52 : decode cX5_setPolicy 52 = .ok (.iload_n 3, 1) := by decide +kernel
theorem dX5_setPolicy_53 : decode cX5_setPolicy 53 = .ok (.ireturn, 1) := by decide +kernel
set_option maxRecDepth 20000 in
theorem ggX5_setJoinMode_X5_in : GoodIn wsX5_setJoinMode wsX5_in := goodIn_r _ [6] (by decide +kernel) (by decide +kernel)
set_option maxRecDepth 20000 in
theorem gX5_setJoinMode_X5_in : GoodIn wsX5_setJoinMode (va_wsS RX5 23 yX5_in wsX5_in) := goodIn_app (goodIn_of _ (by decide +kernel)) ggX5_setJoinMode_X5_in
set_option maxRecDepth 20000 in
theorem ggX5_setJoinMode_X5_refuse : GoodIn wsX5_setJoinMode wsX5_refuse := goodIn_r _ [10, 1, 17, 18, 19, 20, 21, 22] (by decide +kernel) (by decide +kernel)
set_option maxRecDepth 20000 in
theorem gX5_setJoinMode_X5_refuse : GoodIn wsX5_setJoinMode (wsV RX5 48 RX5 yX5_refuse wsX5_refuse) := goodIn_app (goodIn_of _ (by decide +kernel)) ggX5_setJoinMode_X5_refuse
set_option maxRecDepth 20000 in
theorem ggX5_setJoinMode_X5_save : GoodIn wsX5_setJoinMode wsX5_save := goodIn_r _ [14, 15, 16, 2, 17, 18, 19, 20, 21, 22] (by decide +kernel) (by decide +kernel)
set_option maxRecDepth 20000 in
theorem gX5_setJoinMode_X5_save : GoodIn wsX5_setJoinMode (wsV RX5 51 RX5 yX5_save wsX5_save) := goodIn_app (goodIn_of _ (by decide +kernel)) ggX5_setJoinMode_X5_save
theorem dX5_setJoinMode_0 : decode cX5_setJoinMode 0 = .ok (.aload_n 0, 1) := by decide +kernel
theorem dX5_setJoinMode_1 : decode cX5_setJoinMode 1 = .ok (.iconst 0, 1) := by decide +kernel
theorem dX5_setJoinMode_2 : decode cX5_setJoinMode 2 = .ok (.putfield 19, 3) := by decide +kernel
theorem dX5_setJoinMode_5 : decode cX5_setJoinMode 5 = .ok (.iload_n 1, 1) := by decide +kernel
theorem dX5_setJoinMode_6 : decode cX5_setJoinMode 6 = .ok (.iconst 0, 1) := by decide +kernel
theorem dX5_setJoinMode_7 : decode cX5_setJoinMode 7 = .ok (.iconst 2, 1) := by decide +kernel
theorem dX5_setJoinMode_8 : decode cX5_setJoinMode 8 = .ok (.invokestatic 23, 3) := by decide +kernel
theorem dX5_setJoinMode_11 : decode cX5_setJoinMode 11 = .ok (.ifCond .ne 9, 3) := by decide +kernel
theorem dX5_setJoinMode_14 : decode cX5_setJoinMode 14 = .ok (.aload_n 0, 1) := by decide +kernel
theorem dX5_setJoinMode_15 : decode cX5_setJoinMode 15 = .ok (.iconst 1, 1) := by decide +kernel
theorem dX5_setJoinMode_16 : decode cX5_setJoinMode 16 = .ok (.invokevirtual 48, 3) := by decide +kernel
theorem dX5_setJoinMode_19 : decode cX5_setJoinMode 19 = .ok (.ireturn, 1) := by decide +kernel
theorem dX5_setJoinMode_20 : decode cX5_setJoinMode 20 = .ok (.aload_n 0, 1) := by decide +kernel
theorem dX5_setJoinMode_21 : decode cX5_setJoinMode 21 = .ok (.invokevirtual 51, 3) := by decide +kernel
theorem dX5_setJoinMode_24 : decode cX5_setJoinMode 24 = .ok (.aload_n 0, 1) := by decide +kernel
theorem dX5_setJoinMode_25 : decode cX5_setJoinMode 25 = .ok (.getfield 7, 3) := by decide +kernel
theorem dX5_setJoinMode_28 : decode cX5_setJoinMode 28 = .ok (.iconst 2, 1) := by decide +kernel
theorem dX5_setJoinMode_29 : decode cX5_setJoinMode 29 = .ok (.iaload, 1) := by decide +kernel
theorem dX5_setJoinMode_30 : decode cX5_setJoinMode 30 = .ok (.istore_n 2, 1) := by decide +kernel
theorem dX5_setJoinMode_31 : decode cX5_setJoinMode 31 = .ok (.aload_n 0, 1) := by decide +kernel
theorem dX5_setJoinMode_32 : decode cX5_setJoinMode 32 = .ok (.getfield 7, 3) := by decide +kernel
theorem dX5_setJoinMode_35 : decode cX5_setJoinMode 35 = .ok (.iconst 2, 1) := by decide +kernel
theorem dX5_setJoinMode_36 : decode cX5_setJoinMode 36 = .ok (.iload_n 1, 1) := by decide +kernel
theorem dX5_setJoinMode_37 : decode cX5_setJoinMode 37 = .ok (.iastore, 1) := by decide +kernel
theorem dX5_setJoinMode_38 : decode cX5_setJoinMode 38 = .ok (.iload_n 2, 1) := by decide +kernel
theorem dX5_setJoinMode_39 : decode cX5_setJoinMode 39 = .ok (.ireturn, 1) := by decide +kernel
set_option maxRecDepth 20000 in
theorem ggX5_setReportPeriod_X5_in : GoodIn wsX5_setReportPeriod wsX5_in := goodIn_r _ [6] (by decide +kernel) (by decide +kernel)
set_option maxRecDepth 20000 in
theorem gX5_setReportPeriod_X5_in : GoodIn wsX5_setReportPeriod (va_wsS RX5 23 yX5_in wsX5_in) := goodIn_app (goodIn_of _ (by decide +kernel)) ggX5_setReportPeriod_X5_in
set_option maxRecDepth 20000 in
theorem ggX5_setReportPeriod_X5_refuse : GoodIn wsX5_setReportPeriod wsX5_refuse := goodIn_r _ [10, 1, 17, 18, 19, 20, 21, 22] (by decide +kernel) (by decide +kernel)
set_option maxRecDepth 20000 in
theorem gX5_setReportPeriod_X5_refuse : GoodIn wsX5_setReportPeriod (wsV RX5 48 RX5 yX5_refuse wsX5_refuse) := goodIn_app (goodIn_of _ (by decide +kernel)) ggX5_setReportPeriod_X5_refuse
set_option maxRecDepth 20000 in
theorem ggX5_setReportPeriod_X5_save : GoodIn wsX5_setReportPeriod wsX5_save := goodIn_r _ [14, 15, 16, 2, 17, 18, 19, 20, 21, 22] (by decide +kernel) (by decide +kernel)
set_option maxRecDepth 20000 in
theorem gX5_setReportPeriod_X5_save : GoodIn wsX5_setReportPeriod (wsV RX5 51 RX5 yX5_save wsX5_save) := goodIn_app (goodIn_of _ (by decide +kernel)) ggX5_setReportPeriod_X5_save
theorem dX5_setReportPeriod_0 : decode cX5_setReportPeriod 0 = .ok (.aload_n 0, 1) := by decide +kernel
theorem dX5_setReportPeriod_1 : decode cX5_setReportPeriod 1 = .ok (.iconst 0, 1) := by decide +kernel
theorem dX5_setReportPeriod_2 : decode cX5_setReportPeriod 2 = .ok (.putfield 19, 3) := by decide +kernel
theorem dX5_setReportPeriod_5 : decode cX5_setReportPeriod 5 = .ok (.iload_n 1, 1) := by decide +kernel
theorem dX5_setReportPeriod_6 : decode cX5_setReportPeriod 6 = .ok (.iconst 1, 1) := by decide +kernel
theorem dX5_setReportPeriod_7 : decode cX5_setReportPeriod 7 = .ok (.bipush 100, 2) := by decide +kernel
theorem dX5_setReportPeriod_9 : decode cX5_setReportPeriod 9 = .ok (.invokestatic 23, 3) := by decide +kernel
theorem dX5_setReportPeriod_12 : decode cX5_setReportPeriod 12 = .ok (.ifCond .ne 9, 3) := by decide +kernel
theorem dX5_setReportPeriod_15 : decode cX5_setReportPeriod 15 = .ok (.aload_n 0, 1) := by decide +kernel
theorem dX5_setReportPeriod_16 : decode cX5_setReportPeriod 16 = .ok (.iconst 1, 1) := by decide +kernel
theorem dX5_setReportPeriod_17 : decode cX5_setReportPeriod 17 = .ok (.invokevirtual 48, 3) := by decide +kernel
theorem dX5_setReportPeriod_20 : decode cX5_setReportPeriod 20 = .ok (.ireturn, 1) := by decide +kernel
theorem dX5_setReportPeriod_21 : decode cX5_setReportPeriod 21 = .ok (.aload_n 0, 1) := by decide +kernel
theorem dX5_setReportPeriod_22 : decode cX5_setReportPeriod 22 = .ok (.invokevirtual 51, 3) := by decide +kernel
theorem dX5_setReportPeriod_25 : decode cX5_setReportPeriod 25 = .ok (.aload_n 0, 1) := by decide +kernel
theorem dX5_setReportPeriod_26 : decode cX5_setReportPeriod 26 = .ok (.getfield 7, 3) := by decide +kernel
theorem dX5_setReportPeriod_29 : decode cX5_setReportPeriod 29 = .ok (.iconst 3, 1) := by decide +kernel
theorem dX5_setReportPeriod_30 : decode cX5_setReportPeriod 30 = .ok (.iaload, 1) := by decide +kernel
theorem dX5_setReportPeriod_31 : decode cX5_setReportPeriod 31 = .ok (.istore_n 2, 1) := by decide +kernel
theorem dX5_setReportPeriod_32 : decode cX5_setReportPeriod 32 = .ok (.aload_n 0, 1) := by decide +kernel
theorem dX5_setReportPeriod_33 : decode cX5_setReportPeriod 33 = .ok (.getfield 7, 3) := by decide +kernel
theorem dX5_setReportPeriod_36 : decode cX5_setReportPeriod 36 = .ok (.iconst 3, 1) := by decide +kernel
theorem dX5_setReportPeriod_37 : decode cX5_setReportPeriod 37 = .ok (.iload_n 1, 1) := by decide +kernel
theorem dX5_setReportPeriod_38 : decode cX5_setReportPeriod 38 = .ok (.iastore, 1) := by decide +kernel
theorem dX5_setReportPeriod_39 : decode cX5_setReportPeriod 39 = .ok (.iload_n 2, 1) := by decide +kernel
theorem dX5_setReportPeriod_40 : decode cX5_setReportPeriod 40 = .ok (.ireturn, 1) := by decide +kernel
set_option maxRecDepth 20000 in
theorem ggX5_setRandom_X5_in : GoodIn wsX5_setRandom wsX5_in := goodIn_r _ [7] (by decide +kernel) (by decide +kernel)
set_option maxRecDepth 20000 in
theorem gX5_setRandom_X5_in : GoodIn wsX5_setRandom (va_wsS RX5 23 yX5_in wsX5_in) := goodIn_app (goodIn_of _ (by decide +kernel)) ggX5_setRandom_X5_in
set_option maxRecDepth 20000 in
theorem ggX5_setRandom_X5_refuse : GoodIn wsX5_setRandom wsX5_refuse := goodIn_r _ [11, 1, 18, 19, 20, 21, 22, 23] (by decide +kernel) (by decide +kernel)
set_option maxRecDepth 20000 in
theorem gX5_setRandom_X5_refuse : GoodIn wsX5_setRandom (wsV RX5 48 RX5 yX5_refuse wsX5_refuse) := goodIn_app (goodIn_of _ (by decide +kernel)) ggX5_setRandom_X5_refuse
set_option maxRecDepth 20000 in
theorem ggX5_setRandom_X5_save : GoodIn wsX5_setRandom wsX5_save := goodIn_r _ [15, 16, 17, 3, 18, 19, 20, 21, 22, 23] (by decide +kernel) (by decide +kernel)
set_option maxRecDepth 20000 in
theorem gX5_setRandom_X5_save : GoodIn wsX5_setRandom (wsV RX5 51 RX5 yX5_save wsX5_save) := goodIn_app (goodIn_of _ (by decide +kernel)) ggX5_setRandom_X5_save
theorem dX5_setRandom_0 : decode cX5_setRandom 0 = .ok (.aload_n 0, 1) := by decide +kernel
theorem dX5_setRandom_1 : decode cX5_setRandom 1 = .ok (.iconst 0, 1) := by decide +kernel
theorem dX5_setRandom_2 : decode cX5_setRandom 2 = .ok (.putfield 19, 3) := by decide +kernel
theorem dX5_setRandom_5 : decode cX5_setRandom 5 = .ok (.iload_n 1, 1) := by decide +kernel
theorem dX5_setRandom_6 : decode cX5_setRandom 6 = .ok (.iconst 0, 1) := by decide +kernel
theorem dX5_setRandom_7 : decode cX5_setRandom 7 = .ok (.ldc 62, 2) := by decide +kernel
theorem dX5_setRandom_9 : decode cX5_setRandom 9 = .ok (.invokestatic 23, 3) := by decide +kernel
theorem dX5_setRandom_12 : decode cX5_setRandom 12 = .ok (.ifCond .ne 9, 3) := by decide +kernel
theorem dX5_setRandom_15 : decode cX5_setRandom 15 = .ok (.aload_n 0, 1) := by decide +kernel
theorem dX5_setRandom_16 : decode cX5_setRandom 16 = .ok (.iconst 1, 1) := by decide +kernel
theorem dX5_setRandom_17 : decode cX5_setRandom 17 = .ok (.invokevirtual 48, 3) := by decide +kernel
theorem dX5_setRandom_20 : decode cX5_setRandom 20 = .ok (.ireturn, 1) := by decide +kernel
theorem dX5_setRandom_21 : decode cX5_setRandom 21 = .ok (.aload_n 0, 1) := by decide +kernel
theorem dX5_setRandom_22 : decode cX5_setRandom 22 = .ok (.invokevirtual 51, 3) := by decide +kernel
theorem dX5_setRandom_25 : decode cX5_setRandom 25 = .ok (.aload_n 0, 1) := by decide +kernel
theorem dX5_setRandom_26 : decode cX5_setRandom 26 = .ok (.getfield 7, 3) := by decide +kernel
theorem dX5_setRandom_29 : decode cX5_setRandom 29 = .ok (.iconst 0, 1) := by decide +kernel
theorem dX5_setRandom_30 : decode cX5_setRandom 30 = .ok (.iload_n 1, 1) := by decide +kernel
theorem dX5_setRandom_31 : decode cX5_setRandom 31 = .ok (.iastore, 1) := by decide +kernel
theorem dX5_setRandom_32 : decode cX5_setRandom 32 = .ok (.iconst 1, 1) := by decide +kernel
theorem dX5_setRandom_33 : decode cX5_setRandom 33 = .ok (.ireturn, 1) := by decide +kernel
set_option maxRecDepth 20000 in
theorem ggX5_setUp_X5_isServer : GoodIn wsX5_setUp wsX5_isServer := goodIn_r _ [7, 2, 8, 9, 6, 10, 49, 50, 51, 52, 53, 54] (by decide +kernel) (by decide +kernel)
set_option maxRecDepth 20000 in
theorem gX5_setUp_X5_isServer : GoodIn wsX5_setUp (wsV RX5 63 RX5 yX5_isServer wsX5_isServer) := goodIn_app (goodIn_of _ (by decide +kernel)) ggX5_setUp_X5_isServer
set_option maxRecDepth 20000 in
theorem ggX5_setUp_X5_save : GoodIn wsX5_setUp wsX5_save := goodIn_r _ [14, 15, 16, 2, 49, 50, 51, 52, 53, 54] (by decide +kernel) (by decide +kernel)
set_option maxRecDepth 20000 in
theorem gX5_setUp_X5_save : GoodIn wsX5_setUp (wsV RX5 51 RX5 yX5_save wsX5_save) := goodIn_app (goodIn_of _ (by decide +kernel)) ggX5_setUp_X5_save
set_option maxRecDepth 20000 in
theorem ggX5_setUp_X5_isUp : GoodIn wsX5_setUp wsX5_isUp := goodIn_r _ [20, 2, 49, 50, 51, 52, 53, 54] (by decide +kernel) (by decide +kernel)
set_option maxRecDepth 20000 in
theorem gX5_setUp_X5_isUp : GoodIn wsX5_setUp (wsV RX5 66 RX5 yX5_isUp wsX5_isUp) := goodIn_app (goodIn_of _ (by decide +kernel)) ggX5_setUp_X5_isUp
set_option maxRecDepth 20000 in
theorem ggX5_setUp_X5_lengthOf : GoodIn wsX5_setUp wsX5_lengthOf := goodIn_r _ [24, 2, 25, 26, 27, 6, 28, 49, 50, 51, 52, 53, 54] (by decide +kernel) (by decide +kernel)
set_option maxRecDepth 20000 in
theorem gX5_setUp_X5_lengthOf : GoodIn wsX5_setUp (wsV RX5 69 RX5 yX5_lengthOf wsX5_lengthOf) := goodIn_app (goodIn_of _ (by decide +kernel)) ggX5_setUp_X5_lengthOf
set_option maxRecDepth 20000 in
theorem ggX5_setUp_X5_register : GoodIn wsX5_setUp wsX5_register := goodIn_r _ [32, 2, 33, 34, 35, 6, 36, 37, 38, 39, 40, 49, 50, 51, 52, 53, 54] (by decide +kernel) (by decide +kernel)
set_option maxRecDepth 20000 in
theorem gX5_setUp_X5_register : GoodIn wsX5_setUp (wsV RX5 54 RX5 yX5_register wsX5_register) := goodIn_app (goodIn_of _ (by decide +kernel)) ggX5_setUp_X5_register
set_option maxRecDepth 20000 in
theorem ggX5_setUp_X5_leave : GoodIn wsX5_setUp wsX5_leave := goodIn_r _ [44, 2, 45, 46, 47, 6, 48, 49, 50, 51, 52, 53, 54] (by decide +kernel) (by decide +kernel)
set_option maxRecDepth 20000 in
theorem gX5_setUp_X5_leave : GoodIn wsX5_setUp (wsV RX5 72 RX5 yX5_leave wsX5_leave) := goodIn_app (goodIn_of _ (by decide +kernel)) ggX5_setUp_X5_leave
theorem dX5_setUp_0 : decode cX5_setUp 0 = .ok (.aload_n 0, 1) := by decide +kernel
theorem dX5_setUp_1 : decode cX5_setUp 1 = .ok (.iconst 0, 1) := by decide +kernel
theorem dX5_setUp_2 : decode cX5_setUp 2 = .ok (.putfield 19, 3) := by decide +kernel
theorem dX5_setUp_5 : decode cX5_setUp 5 = .ok (.aload_n 0, 1) := by decide +kernel
theorem dX5_setUp_6 : decode cX5_setUp 6 = .ok (.iload_n 1, 1) := by decide +kernel
theorem dX5_setUp_7 : decode cX5_setUp 7 = .ok (.invokevirtual 63, 3) := by decide +kernel
theorem dX5_setUp_10 : decode cX5_setUp 10 = .ok (.ifCond .ne 10, 3) := by decide +kernel
theorem dX5_setUp_13 : decode cX5_setUp 13 = .ok (.aload_n 0, 1) := by decide +kernel
theorem dX5_setUp_14 : decode cX5_setUp 14 = .ok (.iconst 1, 1) := by decide +kernel
theorem dX5_setUp_15 : decode cX5_setUp 15 = .ok (.putfield 19, 3) := by decide +kernel
theorem dX5_setUp_18 : decode cX5_setUp 18 = .ok (.iconst 0, 1) := by decide +kernel
theorem dX5_setUp_19 : decode cX5_setUp 19 = .ok (.ireturn, 1) := by decide +kernel
theorem dX5_setUp_20 : decode cX5_setUp 20 = .ok (.aload_n 0, 1) := by decide +kernel
theorem dX5_setUp_21 : decode cX5_setUp 21 = .ok (.invokevirtual 51, 3) := by decide +kernel
theorem dX5_setUp_24 : decode cX5_setUp 24 = .ok (.aload_n 0, 1) := by decide +kernel
theorem dX5_setUp_25 : decode cX5_setUp 25 = .ok (.iload_n 1, 1) := by decide +kernel
theorem dX5_setUp_26 : decode cX5_setUp 26 = .ok (.invokevirtual 66, 3) := by decide +kernel
theorem dX5_setUp_29 : decode cX5_setUp 29 = .ok (.istore_n 3, 1) := by decide +kernel
theorem dX5_setUp_30 : decode cX5_setUp 30 = .ok (.aload_n 0, 1) := by decide +kernel
theorem dX5_setUp_31 : decode cX5_setUp 31 = .ok (.getfield 7, 3) := by decide +kernel
theorem dX5_setUp_34 : decode cX5_setUp 34 = .ok (.bipush 9, 2) := by decide +kernel
theorem dX5_setUp_36 : decode cX5_setUp 36 = .ok (.iload_n 1, 1) := by decide +kernel
theorem dX5_setUp_37 : decode cX5_setUp 37 = .ok (.iadd, 1) := by decide +kernel
theorem dX5_setUp_38 : decode cX5_setUp 38 = .ok (.iload_n 2, 1) := by decide +kernel
theorem dX5_setUp_39 : decode cX5_setUp 39 = .ok (.ifCond .eq 7, 3) := by decide +kernel
theorem dX5_setUp_42 : decode cX5_setUp 42 = .ok (.iconst 1, 1) := by decide +kernel
theorem dX5_setUp_43 : decode cX5_setUp 43 = .ok (.goto 4, 3) := by decide +kernel
theorem dX5_setUp_46 : decode cX5_setUp 46 = .ok (.iconst 0, 1) := by decide +kernel
theorem dX5_setUp_47 : decode cX5_setUp 47 = .ok (.iastore, 1) := by decide +kernel
theorem dX5_setUp_48 : decode cX5_setUp 48 = .ok (.iload_n 2, 1) := by decide +kernel
theorem dX5_setUp_49 : decode cX5_setUp 49 = .ok (.ifCond .eq 20, 3) := by decide +kernel
theorem dX5_setUp_52 : decode cX5_setUp 52 = .ok (.iload_n 3, 1) := by decide +kernel
theorem dX5_setUp_53 : decode cX5_setUp 53 = .ok (.ifCond .ne 16, 3) := by decide +kernel
theorem dX5_setUp_56 : decode cX5_setUp 56 = .ok (.aload_n 0, 1) := by decide +kernel
theorem dX5_setUp_57 : decode cX5_setUp 57 = .ok (.iload_n 1, 1) := by decide +kernel
theorem dX5_setUp_58 : decode cX5_setUp 58 = .ok (.invokevirtual 69, 3) := by decide +kernel
theorem dX5_setUp_61 : decode cX5_setUp 61 = .ok (.ifCond .ne 8, 3) := by decide +kernel
theorem dX5_setUp_64 : decode cX5_setUp 64 = .ok (.aload_n 0, 1) := by decide +kernel
theorem dX5_setUp_65 : decode cX5_setUp 65 = .ok (.iload_n 1, 1) := by decide +kernel
theorem dX5_setUp_66 : decode cX5_setUp 66 = .ok (.invokevirtual 54, 3) := by decide +kernel
theorem dX5_setUp_69 : decode cX5_setUp 69 = .ok (.iload_n 2, 1) := by decide +kernel
theorem dX5_setUp_70 : decode cX5_setUp 70 = .ok (.ifCond .ne 8, 3) := by decide +kernel
theorem dX5_setUp_73 : decode cX5_setUp 73 = .ok (.aload_n 0, 1) := by decide +kernel
theorem dX5_setUp_74 : decode cX5_setUp 74 = .ok (.iload_n 1, 1) := by decide +kernel
theorem dX5_setUp_75 : decode cX5_setUp 75 = .ok (.invokevirtual 72, 3) := by decide +kernel
theorem dX5_setUp_78 : decode cX5_setUp 78 = .ok (.iload_n 3, 1) := by decide +kernel
theorem dX5_setUp_79 : decode cX5_setUp 79 = .ok (.ireturn, 1) := by decide +kernel
set_option maxRecDepth 20000 in
theorem ggX5_findCandidates_X5_isUp : GoodIn wsX5_findCandidates wsX5_isUp := goodIn_r _ [7, 1, 8, 9, 10, 11, 12, 13] (by decide +kernel) (by decide +kernel)
set_option maxRecDepth 20000 in
theorem gX5_findCandidates_X5_isUp : GoodIn wsX5_findCandidates (wsV RX5 66 RX5 yX5_isUp wsX5_isUp) := goodIn_app (goodIn_of _ (by decide +kernel)) ggX5_findCandidates_X5_isUp
theorem dX5_findCandidates_0 : decode cX5_findCandidates 0 = .ok (.iconst 0, 1) := by decide +kernel
theorem dX5_findCandidates_1 : decode cX5_findCandidates 1 = .ok (.istore_n 1, 1) := by decide +kernel
theorem dX5_findCandidates_2 : decode cX5_findCandidates 2 = .ok (.iconst 0, 1) := by decide +kernel
theorem dX5_findCandidates_3 : decode cX5_findCandidates 3 = .ok (.istore_n 2, 1) := by decide +kernel
theorem dX5_findCandidates_4 : decode cX5_findCandidates 4 = .ok (.iload_n 2, 1) := by decide +kernel
theorem dX5_findCandidates_5 : decode cX5_findCandidates 5 = .ok (.aload_n 0, 1) := by decide +kernel
theorem dX5_findCandidates_6 : decode cX5_findCandidates 6 = .ok (.getfield 7, 3) := by decide +kernel
theorem dX5_findCandidates_9 : decode cX5_findCandidates 9 = .ok (.iconst 4, 1) := by decide +kernel
theorem dX5_findCandidates_10 : decode cX5_findCandidates 10 = .ok (.iaload, 1) := by decide +kernel
theorem dX5_findCandidates_11 : decode cX5_findCandidates 11 = .ok (.if_icmp .ge 27, 3) := by decide +kernel
theorem dX5_findCandidates_14 : decode cX5_findCandidates 14 = .ok (.aload_n 0, 1) := by decide +kernel
theorem dX5_findCandidates_15 : decode cX5_findCandidates 15 = .ok (.iload_n 2, 1) := by decide +kernel
theorem dX5_findCandidates_16 : decode cX5_findCandidates 16 = .ok (.invokevirtual 66, 3) := by decide +kernel
theorem dX5_findCandidates_19 : decode cX5_findCandidates 19 = .ok (.ifCond .eq 13, 3) := by decide +kernel
theorem dX5_findCandidates_22 : decode cX5_findCandidates 22 = .ok (.aload_n 0, 1) := by decide +kernel
theorem dX5_findCandidates_23 : decode cX5_findCandidates 23 = .ok (.getfield 16, 3) := by decide +kernel
theorem dX5_findCandidates_26 : decode cX5_findCandidates 26 = .ok (.iload_n 1, 1) := by decide +kernel
theorem dX5_findCandidates_27 : decode cX5_findCandidates 27 = .ok (.iload_n 2, 1) := by decide +kernel
theorem dX5_findCandidates_28 : decode cX5_findCandidates 28 = .ok (.iastore, 1) := by decide +kernel
theorem dX5_findCandidates_29 : decode cX5_findCandidates 29 = .ok (.iinc 1 1, 3) := by decide +kernel
theorem dX5_findCandidates_32 : decode cX5_findCandidates 32 = .ok (.iinc 2 1, 3) := by decide +kernel
theorem dX5_findCandidates_35 : decode cX5_findCandidates 35 = .ok (.goto (-31), 3) := by decide +kernel
theorem dX5_findCandidates_38 : decode cX5_findCandidates 38 = .ok (.iload_n 1, 1) := by decide +kernel
theorem dX5_findCandidates_39 : decode cX5_findCandidates 39 = .ok (.ireturn, 1) := by decide +kernel
theorem dX5_nextInTurn_0 : decode cX5_nextInTurn 0 = .ok (.iconst 0, 1) := by decide +kernel
theorem dX5_nextInTurn_1 : decode cX5_nextInTurn 1 = .ok (.istore_n 3, 1) := by decide +kernel
theorem dX5_nextInTurn_2 : decode cX5_nextInTurn 2 = .ok (.iload_n 3, 1) := by decide +kernel
theorem dX5_nextInTurn_3 : decode cX5_nextInTurn 3 = .ok (.iload_n 2, 1) := by decide +kernel
theorem dX5_nextInTurn_4 : decode cX5_nextInTurn 4 = .ok (.if_icmp .ge 34, 3) := by decide +kernel
theorem dX5_nextInTurn_7 : decode cX5_nextInTurn 7 = .ok (.aload_n 0, 1) := by decide +kernel
theorem dX5_nextInTurn_8 : decode cX5_nextInTurn 8 = .ok (.getfield 16, 3) := by decide +kernel
theorem dX5_nextInTurn_11 : decode cX5_nextInTurn 11 = .ok (.iload_n 3, 1) := by decide +kernel
theorem dX5_nextInTurn_12 : decode cX5_nextInTurn 12 = .ok (.iaload, 1) := by decide +kernel
theorem dX5_nextInTurn_13 : decode cX5_nextInTurn 13 = .ok (.aload_n 0, 1) := by decide +kernel
theorem dX5_nextInTurn_14 : decode cX5_nextInTurn 14 = .ok (.getfield 7, 3) := by decide +kernel
theorem dX5_nextInTurn_17 : decode cX5_nextInTurn 17 = .ok (.bipush 21, 2) := by decide +kernel
theorem dX5_nextInTurn_19 : decode cX5_nextInTurn 19 = .ok (.iload_n 1, 1) := by decide +kernel
theorem dX5_nextInTurn_20 : decode cX5_nextInTurn 20 = .ok (.iadd, 1) := by decide +kernel
theorem dX5_nextInTurn_21 : decode cX5_nextInTurn 21 = .ok (.iaload, 1) := by decide +kernel
theorem dX5_nextInTurn_22 : decode cX5_nextInTurn 22 = .ok (.if_icmp .lt 10, 3) := by decide +kernel
theorem dX5_nextInTurn_25 : decode cX5_nextInTurn 25 = .ok (.aload_n 0, 1) := by decide +kernel
theorem dX5_nextInTurn_26 : decode cX5_nextInTurn 26 = .ok (.getfield 16, 3) := by decide +kernel
theorem dX5_nextInTurn_29 : decode cX5_nextInTurn 29 = .ok (.iload_n 3, 1) := by decide +kernel
theorem dX5_nextInTurn_30 : decode cX5_nextInTurn 30 = .ok (.iaload, 1) := by decide +kernel
theorem dX5_nextInTurn_31 : decode cX5_nextInTurn 31 = .ok (.ireturn, 1) := by decide +kernel
theorem dX5_nextInTurn_32 : decode cX5_nextInTurn 32 = .ok (.iinc 3 1, 3) := by decide +kernel
theorem dX5_nextInTurn_35 : decode cX5_nextInTurn 35 = .ok (.goto (-33), 3) := by decide +kernel
theorem dX5_nextInTurn_38 : decode cX5_nextInTurn 38 = .ok (.aload_n 0, 1) := by decide +kernel
theorem dX5_nextInTurn_39 : decode cX5_nextInTurn 39 = .ok (.getfield 16, 3) := by decide +kernel
theorem dX5_nextInTurn_42 : decode cX5_nextInTurn 42 = .ok (.iconst 0, 1) := by decide +kernel
theorem dX5_nextInTurn_43 : decode cX5_nextInTurn 43 = .ok (.iaload, 1) := by decide +kernel
theorem dX5_nextInTurn_44 : decode cX5_nextInTurn 44 = .ok (.ireturn, 1) := by decide +kernel
theorem dX5_leastKnown_0 : decode cX5_leastKnown 0 = .ok (.aload_n 0, 1) := by decide +kernel
theorem dX5_leastKnown_1 : decode cX5_leastKnown 1 = .ok (.getfield 16, 3) := by decide +kernel
theorem dX5_leastKnown_4 : decode cX5_leastKnown 4 = .ok (.iconst 0, 1) := by decide +kernel
theorem dX5_leastKnown_5 : decode cX5_leastKnown 5 = .ok (.iaload, 1) := by decide +kernel
theorem dX5_leastKnown_6 : decode cX5_leastKnown 6 = .ok (.istore_n 3, 1) := by decide +kernel
theorem dX5_leastKnown_7 : decode cX5_leastKnown 7 = .ok (.iconst 1, 1) := by decide +kernel
theorem dX5_leastKnown_8 : decode cX5_leastKnown 8 = .ok (.istore 4, 2) := by decide +kernel
theorem dX5_leastKnown_10 : decode cX5_leastKnown 10 = .ok (.iload 4, 2) := by decide +kernel
theorem dX5_leastKnown_12 : decode cX5_leastKnown 12 = .ok (.iload_n 2, 1) := by decide +kernel
theorem dX5_leastKnown_13 : decode cX5_leastKnown 13 = .ok (.if_icmp .ge 62, 3) := by decide +kernel
theorem dX5_leastKnown_16 : decode cX5_leastKnown 16 = .ok (.aload_n 0, 1) := by decide +kernel
theorem dX5_leastKnown_17 : decode cX5_leastKnown 17 = .ok (.getfield 7, 3) := by decide +kernel
theorem dX5_leastKnown_20 : decode cX5_leastKnown 20 = .ok (.bipush 25, 2) := by decide +kernel
theorem dX5_leastKnown_22 : decode cX5_leastKnown 22 = .ok (.bipush 8, 2) := by decide +kernel
theorem dX5_leastKnown_24 : decode cX5_leastKnown 24 = .ok (.iload_n 1, 1) := by decide +kernel
theorem dX5_leastKnown_25 : decode cX5_leastKnown 25 = .ok (.imul, 1) := by decide +kernel
theorem dX5_leastKnown_26 : decode cX5_leastKnown 26 = .ok (.iadd, 1) := by decide +kernel
theorem dX5_leastKnown_27 : decode cX5_leastKnown 27 = .ok (.aload_n 0, 1) := by decide +kernel
theorem dX5_leastKnown_28 : decode cX5_leastKnown 28 = .ok (.getfield 16, 3) := by decide +kernel
theorem dX5_leastKnown_31 : decode cX5_leastKnown 31 = .ok (.iload 4, 2) := by decide +kernel
theorem dX5_leastKnown_33 : decode cX5_leastKnown 33 = .ok (.iaload, 1) := by decide +kernel
theorem dX5_leastKnown_34 : decode cX5_leastKnown 34 = .ok (.iadd, 1) := by decide +kernel
theorem dX5_leastKnown_35 : decode cX5_leastKnown 35 = .ok (.iaload, 1) := by decide +kernel
theorem dX5_leastKnown_36 : decode cX5_leastKnown 36 = .ok (.istore 5, 2) := by decide +kernel
theorem dX5_leastKnown_38 : decode cX5_leastKnown 38 = .ok (.iload 5, 2) := by decide +kernel
theorem dX5_leastKnown_40 : decode cX5_leastKnown 40 = .ok (.aload_n 0, 1) := by decide +kernel
theorem dX5_leastKnown_41 : decode cX5_leastKnown 41 = .ok (.getfield 7, 3) := by decide +kernel
theorem dX5_leastKnown_44 : decode cX5_leastKnown 44 = .ok (.bipush 25, 2) := by decide +kernel
theorem dX5_leastKnown_46 : decode cX5_leastKnown 46 = .ok (.bipush 8, 2) := by decide +kernel
theorem dX5_leastKnown_48 : decode cX5_leastKnown 48 = .ok (.iload_n 1, 1) := by decide +kernel
theorem dX5_leastKnown_49 : decode cX5_leastKnown 49 = .ok (.imul, 1) := by decide +kernel
theorem dX5_leastKnown_50 : decode cX5_leastKnown 50 = .ok (.iadd, 1) := by decide +kernel
theorem dX5_leastKnown_51 : decode cX5_leastKnown 51 = .ok (.iload_n 3, 1) := by decide +kernel
theorem dX5_leastKnown_52 : decode cX5_leastKnown 52 = .ok (.iadd, 1) := by decide +kernel
theorem dX5_leastKnown_53 : decode cX5_leastKnown 53 = .ok (.iaload, 1) := by decide +kernel
theorem dX5_leastKnown_54 : decode cX5_leastKnown 54 = .ok (.if_icmp .ge 13, 3) := by decide +kernel
theorem dX5_leastKnown_57 : decode cX5_leastKnown 57 = .ok (.aload_n 0, 1) := by decide +kernel
theorem dX5_leastKnown_58 : decode cX5_leastKnown 58 = .ok (.getfield 16, 3) := by decide +kernel
theorem dX5_leastKnown_61 : decode cX5_leastKnown 61 = .ok (.iload 4, 2) := by decide +kernel
theorem dX5_leastKnown_63 : decode cX5_leastKnown 63 = .ok (.iaload, 1) := by decide +kernel
theorem dX5_leastKnown_64 : decode cX5_leastKnown 64 = .ok (.goto 4, 3) := by decide +kernel
theorem dX5_leastKnown_67 : decode cX5_leastKnown 67 = .ok (.iload_n 3, 1) := by decide +kernel
theorem dX5_leastKnown_68 : decode cX5_leastKnown 68 = .ok (.istore_n 3, 1) := by decide +kernel
theorem dX5_leastKnown_69 : decode cX5_leastKnown 69 = .ok (.iinc 4 1, 3) := by decide +kernel
theorem dX5_leastKnown_72 : decode cX5_leastKnown 72 = .ok (.goto (-62), 3) := by decide +kernel
theorem dX5_leastKnown_75 : decode cX5_leastKnown 75 = .ok (.iload_n 3, 1) := by decide +kernel
theorem dX5_leastKnown_76 : decode cX5_leastKnown 76 = .ok (.ireturn, 1) := by decide +kernel
set_option maxRecDepth 20000 in
theorem ggX5_twoChoices_X5_draw : GoodIn wsX5_twoChoices wsX5_draw := goodIn_r _ [6, 7, 8, 9, 10, 11, 20, 21, 22, 23, 24, 25] (by decide +kernel) (by decide +kernel)
set_option maxRecDepth 20000 in
theorem gX5_twoChoices_X5_draw : GoodIn wsX5_twoChoices (wsV RX5 41 RX5 yX5_draw wsX5_draw) := goodIn_app (goodIn_of _ (by decide +kernel)) ggX5_twoChoices_X5_draw
set_option maxRecDepth 20000 in
theorem ggX5_twoChoices_X5_lengthOf : GoodIn wsX5_twoChoices wsX5_lengthOf := goodIn_r _ [15, 7, 16, 17, 18, 5, 19, 20, 21, 22, 23, 24, 25] (by decide +kernel) (by decide +kernel)
set_option maxRecDepth 20000 in
theorem gX5_twoChoices_X5_lengthOf : GoodIn wsX5_twoChoices (wsV RX5 69 RX5 yX5_lengthOf wsX5_lengthOf) := goodIn_app (goodIn_of _ (by decide +kernel)) ggX5_twoChoices_X5_lengthOf
theorem dX5_twoChoices_0 : decode cX5_twoChoices 0 = .ok (.aload_n 0, 1) := by decide +kernel
theorem dX5_twoChoices_1 : decode cX5_twoChoices 1 = .ok (.getfield 16, 3) := by decide +kernel
theorem dX5_twoChoices_4 : decode cX5_twoChoices 4 = .ok (.aload_n 0, 1) := by decide +kernel
theorem dX5_twoChoices_5 : decode cX5_twoChoices 5 = .ok (.iload_n 1, 1) := by decide +kernel
theorem dX5_twoChoices_6 : decode cX5_twoChoices 6 = .ok (.invokevirtual 41, 3) := by decide +kernel
theorem dX5_twoChoices_9 : decode cX5_twoChoices 9 = .ok (.iaload, 1) := by decide +kernel
theorem dX5_twoChoices_10 : decode cX5_twoChoices 10 = .ok (.istore_n 2, 1) := by decide +kernel
theorem dX5_twoChoices_11 : decode cX5_twoChoices 11 = .ok (.aload_n 0, 1) := by decide +kernel
theorem dX5_twoChoices_12 : decode cX5_twoChoices 12 = .ok (.getfield 16, 3) := by decide +kernel
theorem dX5_twoChoices_15 : decode cX5_twoChoices 15 = .ok (.aload_n 0, 1) := by decide +kernel
theorem dX5_twoChoices_16 : decode cX5_twoChoices 16 = .ok (.iload_n 1, 1) := by decide +kernel
theorem dX5_twoChoices_17 : decode cX5_twoChoices 17 = .ok (.invokevirtual 41, 3) := by decide +kernel
theorem dX5_twoChoices_20 : decode cX5_twoChoices 20 = .ok (.iaload, 1) := by decide +kernel
theorem dX5_twoChoices_21 : decode cX5_twoChoices 21 = .ok (.istore_n 3, 1) := by decide +kernel
theorem dX5_twoChoices_22 : decode cX5_twoChoices 22 = .ok (.aload_n 0, 1) := by decide +kernel
theorem dX5_twoChoices_23 : decode cX5_twoChoices 23 = .ok (.iload_n 3, 1) := by decide +kernel
theorem dX5_twoChoices_24 : decode cX5_twoChoices 24 = .ok (.invokevirtual 69, 3) := by decide +kernel
theorem dX5_twoChoices_27 : decode cX5_twoChoices 27 = .ok (.aload_n 0, 1) := by decide +kernel
theorem dX5_twoChoices_28 : decode cX5_twoChoices 28 = .ok (.iload_n 2, 1) := by decide +kernel
theorem dX5_twoChoices_29 : decode cX5_twoChoices 29 = .ok (.invokevirtual 69, 3) := by decide +kernel
theorem dX5_twoChoices_32 : decode cX5_twoChoices 32 = .ok (.if_icmp .ge 7, 3) := by decide +kernel
theorem dX5_twoChoices_35 : decode cX5_twoChoices 35 = .ok (.iload_n 3, 1) := by decide +kernel
theorem dX5_twoChoices_36 : decode cX5_twoChoices 36 = .ok (.goto 4, 3) := by decide +kernel
theorem dX5_twoChoices_39 : decode cX5_twoChoices 39 = .ok (.iload_n 2, 1) := by decide +kernel
theorem dX5_twoChoices_40 : decode cX5_twoChoices 40 = .ok (.ireturn, 1) := by decide +kernel
set_option maxRecDepth 20000 in
theorem ggX5_taken_X5_nextInTurn : GoodIn wsX5_taken wsX5_nextInTurn := goodIn_r _ [7, 2, 1, 32, 33, 34, 35, 36, 37] (by decide +kernel) (by decide +kernel)
set_option maxRecDepth 20000 in
theorem gX5_taken_X5_nextInTurn : GoodIn wsX5_taken (wsV RX5 75 RX5 yX5_nextInTurn wsX5_nextInTurn) := goodIn_app (goodIn_of _ (by decide +kernel)) ggX5_taken_X5_nextInTurn
set_option maxRecDepth 20000 in
theorem ggX5_taken_X5_twoChoices : GoodIn wsX5_taken wsX5_twoChoices := goodIn_r _ [11, 2, 12, 13, 14, 6, 15, 1, 16, 17, 18, 19, 20, 21, 22, 23, 24, 25, 26, 27, 32, 33, 34, 35, 36, 37] (by decide +kernel) (by decide +kernel)
set_option maxRecDepth 20000 in
theorem gX5_taken_X5_twoChoices : GoodIn wsX5_taken (wsV RX5 79 RX5 yX5_twoChoices wsX5_twoChoices) := goodIn_app (goodIn_of _ (by decide +kernel)) ggX5_taken_X5_twoChoices
set_option maxRecDepth 20000 in
theorem ggX5_taken_X5_leastKnown : GoodIn wsX5_taken wsX5_leastKnown := goodIn_r _ [31, 2, 1, 32, 33, 34, 35, 36, 37] (by decide +kernel) (by decide +kernel)
set_option maxRecDepth 20000 in
theorem gX5_taken_X5_leastKnown : GoodIn wsX5_taken (wsV RX5 82 RX5 yX5_leastKnown wsX5_leastKnown) := goodIn_app (goodIn_of _ (by decide +kernel)) ggX5_taken_X5_leastKnown
set_option maxRecDepth 20000 in
theorem ggX5_taken_X5_draw : GoodIn wsX5_taken wsX5_draw := goodIn_r _ [15, 1, 16, 17, 18, 19, 32, 33, 34, 35, 36, 37] (by decide +kernel) (by decide +kernel)
set_option maxRecDepth 20000 in
theorem gX5_taken_X5_draw : GoodIn wsX5_taken (wsV RX5 41 RX5 yX5_draw wsX5_draw) := goodIn_app (goodIn_of _ (by decide +kernel)) ggX5_taken_X5_draw
theorem dX5_taken_0 : decode cX5_taken 0 = .ok (.aload_n 0, 1) := by decide +kernel
theorem dX5_taken_1 : decode cX5_taken 1 = .ok (.getfield 7, 3) := by decide +kernel
theorem dX5_taken_4 : decode cX5_taken 4 = .ok (.bipush 17, 2) := by decide +kernel
theorem dX5_taken_6 : decode cX5_taken 6 = .ok (.iload_n 1, 1) := by decide +kernel
theorem dX5_taken_7 : decode cX5_taken 7 = .ok (.iadd, 1) := by decide +kernel
theorem dX5_taken_8 : decode cX5_taken 8 = .ok (.iaload, 1) := by decide +kernel
theorem dX5_taken_9 : decode cX5_taken 9 = .ok (.tableswitch 85 1 4 #[31, 52, 85, 58], 31) := by decide +kernel
theorem dX5_taken_40 : decode cX5_taken 40 = .ok (.aload_n 0, 1) := by decide +kernel
theorem dX5_taken_41 : decode cX5_taken 41 = .ok (.iload_n 1, 1) := by decide +kernel
theorem dX5_taken_42 : decode cX5_taken 42 = .ok (.iload_n 2, 1) := by decide +kernel
theorem dX5_taken_43 : decode cX5_taken 43 = .ok (.invokevirtual 75, 3) := by decide +kernel
theorem dX5_taken_46 : decode cX5_taken 46 = .ok (.istore_n 3, 1) := by decide +kernel
theorem dX5_taken_47 : decode cX5_taken 47 = .ok (.aload_n 0, 1) := by decide +kernel
theorem dX5_taken_48 : decode cX5_taken 48 = .ok (.getfield 7, 3) := by decide +kernel
theorem dX5_taken_51 : decode cX5_taken 51 = .ok (.bipush 21, 2) := by decide +kernel
theorem dX5_taken_53 : decode cX5_taken 53 = .ok (.iload_n 1, 1) := by decide +kernel
theorem dX5_taken_54 : decode cX5_taken 54 = .ok (.iadd, 1) := by decide +kernel
theorem dX5_taken_55 : decode cX5_taken 55 = .ok (.iload_n 3, 1) := by decide +kernel
theorem dX5_taken_56 : decode cX5_taken 56 = .ok (.iconst 1, 1) := by decide +kernel
theorem dX5_taken_57 : decode cX5_taken 57 = .ok (.iadd, 1) := by decide +kernel
theorem dX5_taken_58 : decode cX5_taken 58 = .ok (.iastore, 1) := by decide +kernel
theorem dX5_taken_59 : decode cX5_taken 59 = .ok (.iload_n 3, 1) := by decide +kernel
theorem dX5_taken_60 : decode cX5_taken 60 = .ok (.ireturn, 1) := by decide +kernel
theorem dX5_taken_61 : decode cX5_taken 61 = .ok (.aload_n 0, 1) := by decide +kernel
theorem dX5_taken_62 : decode cX5_taken 62 = .ok (.iload_n 2, 1) := by decide +kernel
theorem dX5_taken_63 : decode cX5_taken 63 = .ok (.invokevirtual 79, 3) := by decide +kernel
theorem dX5_taken_66 : decode cX5_taken 66 = .ok (.ireturn, 1) := by decide +kernel
theorem dX5_taken_67 : decode cX5_taken 67 = .ok (.aload_n 0, 1) := by decide +kernel
theorem dX5_taken_68 : decode cX5_taken 68 = .ok (.iload_n 1, 1) := by decide +kernel
theorem dX5_taken_69 : decode cX5_taken 69 = .ok (.iload_n 2, 1) := by decide +kernel
theorem dX5_taken_70 : decode cX5_taken 70 = .ok (.invokevirtual 82, 3) := by decide +kernel
theorem dX5_taken_73 : decode cX5_taken 73 = .ok (.istore_n 3, 1) := by decide +kernel
theorem dX5_taken_74 : decode cX5_taken 74 = .ok (.aload_n 0, 1) := by decide +kernel
theorem dX5_taken_75 : decode cX5_taken 75 = .ok (.getfield 7, 3) := by decide +kernel
theorem dX5_taken_78 : decode cX5_taken 78 = .ok (.bipush 25, 2) := by decide +kernel
theorem dX5_taken_80 : decode cX5_taken 80 = .ok (.bipush 8, 2) := by decide +kernel
theorem dX5_taken_82 : decode cX5_taken 82 = .ok (.iload_n 1, 1) := by decide +kernel
theorem dX5_taken_83 : decode cX5_taken 83 = .ok (.imul, 1) := by decide +kernel
theorem dX5_taken_84 : decode cX5_taken 84 = .ok (.iadd, 1) := by decide +kernel
theorem dX5_taken_85 : decode cX5_taken 85 = .ok (.iload_n 3, 1) := by decide +kernel
theorem dX5_taken_86 : decode cX5_taken 86 = .ok (.iadd, 1) := by decide +kernel
theorem dX5_taken_87 : decode cX5_taken 87 = .ok (.dup2, 1) := by decide +kernel
theorem dX5_taken_88 : decode cX5_taken 88 = .ok (.iaload, 1) := by decide +kernel
theorem dX5_taken_89 : decode cX5_taken 89 = .ok (.iconst 1, 1) := by decide +kernel
theorem dX5_taken_90 : decode cX5_taken 90 = .ok (.iadd, 1) := by decide +kernel
theorem dX5_taken_91 : decode cX5_taken 91 = .ok (.iastore, 1) := by decide +kernel
theorem dX5_taken_92 : decode cX5_taken 92 = .ok (.iload_n 3, 1) := by decide +kernel
theorem dX5_taken_93 : decode cX5_taken 93 = .ok (.ireturn, 1) := by decide +kernel
theorem dX5_taken_94 : decode cX5_taken 94 = .ok (.aload_n 0, 1) := by decide +kernel
theorem dX5_taken_95 : decode cX5_taken 95 = .ok (.getfield 7, 3) := by decide +kernel
theorem dX5_taken_98 : decode cX5_taken 98 = .ok (.bipush 17, 2) := by decide +kernel
theorem dX5_taken_100 : decode cX5_taken 100 = .ok (.iload_n 1, 1) := by decide +kernel
theorem dX5_taken_101 : decode cX5_taken 101 = .ok (.iadd, 1) := by decide +kernel
theorem dX5_taken_102 : decode cX5_taken 102 = .ok (.iaload, 1) := by decide +kernel
theorem dX5_taken_103 : decode cX5_taken 103 = .ok (.iconst 3, 1) := by decide +kernel
theorem dX5_taken_104 : decode cX5_taken 104 = .ok (.if_icmp .ne 19, 3) := by decide +kernel
theorem dX5_taken_107 : decode cX5_taken 107 = .ok (.aload_n 0, 1) := by decide +kernel
theorem dX5_taken_108 : decode cX5_taken 108 = .ok (.getfield 7, 3) := by decide +kernel
theorem dX5_taken_111 : decode cX5_taken 111 = .ok (.bipush 57, 2) := by decide +kernel
theorem dX5_taken_113 : decode cX5_taken 113 = .ok (.iload_n 1, 1) := by decide +kernel
theorem dX5_taken_114 : decode cX5_taken 114 = .ok (.iadd, 1) := by decide +kernel
theorem dX5_taken_115 : decode cX5_taken 115 = .ok (.iaload, 1) := by decide +kernel
theorem dX5_taken_116 : decode cX5_taken 116 = .ok (.ifCond .le 7, 3) := by decide +kernel
theorem dX5_taken_119 : decode cX5_taken 119 = .ok (.iconst 1, 1) := by decide +kernel
theorem dX5_taken_120 : decode cX5_taken 120 = .ok (.goto 4, 3) := by decide +kernel
theorem dX5_taken_123 : decode cX5_taken 123 = .ok (.iconst 0, 1) := by decide +kernel
theorem dX5_taken_124 : decode cX5_taken 124 = .ok (.istore 4, 2) := by decide +kernel
theorem dX5_taken_126 : decode cX5_taken 126 = .ok (.iload 4, 2) := by decide +kernel
theorem dX5_taken_128 : decode cX5_taken 128 = .ok (.ifCond .eq 18, 3) := by decide +kernel
theorem dX5_taken_131 : decode cX5_taken 131 = .ok (.aload_n 0, 1) := by decide +kernel
theorem dX5_taken_132 : decode cX5_taken 132 = .ok (.getfield 7, 3) := by decide +kernel
theorem dX5_taken_135 : decode cX5_taken 135 = .ok (.bipush 61, 2) := by decide +kernel
theorem dX5_taken_137 : decode cX5_taken 137 = .ok (.bipush 8, 2) := by decide +kernel
theorem dX5_taken_139 : decode cX5_taken 139 = .ok (.iload_n 1, 1) := by decide +kernel
theorem dX5_taken_140 : decode cX5_taken 140 = .ok (.imul, 1) := by decide +kernel
theorem dX5_taken_141 : decode cX5_taken 141 = .ok (.iadd, 1) := by decide +kernel
theorem dX5_taken_142 : decode cX5_taken 142 = .ok (.iaload, 1) := by decide +kernel
theorem dX5_taken_143 : decode cX5_taken 143 = .ok (.goto 13, 3) := by decide +kernel
theorem dX5_taken_146 : decode cX5_taken 146 = .ok (.aload_n 0, 1) := by decide +kernel
theorem dX5_taken_147 : decode cX5_taken 147 = .ok (.getfield 16, 3) := by decide +kernel
theorem dX5_taken_150 : decode cX5_taken 150 = .ok (.aload_n 0, 1) := by decide +kernel
theorem dX5_taken_151 : decode cX5_taken 151 = .ok (.iload_n 2, 1) := by decide +kernel
theorem dX5_taken_152 : decode cX5_taken 152 = .ok (.invokevirtual 41, 3) := by decide +kernel
theorem dX5_taken_155 : decode cX5_taken 155 = .ok (.iaload, 1) := by decide +kernel
theorem dX5_taken_156 : decode cX5_taken 156 = .ok (.ireturn, 1) := by decide +kernel
set_option maxRecDepth 20000 in
theorem ggX5_isSomeIdle_X5_lengthOf : GoodIn wsX5_isSomeIdle wsX5_lengthOf := goodIn_r _ [6, 7, 8, 9, 10, 5, 11, 12, 13, 14, 15, 16, 17] (by decide +kernel) (by decide +kernel)
set_option maxRecDepth 20000 in
theorem gX5_isSomeIdle_X5_lengthOf : GoodIn wsX5_isSomeIdle (wsV RX5 69 RX5 yX5_lengthOf wsX5_lengthOf) := goodIn_app (goodIn_of _ (by decide +kernel)) ggX5_isSomeIdle_X5_lengthOf
theorem dX5_isSomeIdle_0 : decode cX5_isSomeIdle 0 = .ok (.iconst 0, 1) := by decide +kernel
theorem dX5_isSomeIdle_1 : decode cX5_isSomeIdle 1 = .ok (.istore_n 2, 1) := by decide +kernel
theorem dX5_isSomeIdle_2 : decode cX5_isSomeIdle 2 = .ok (.iconst 0, 1) := by decide +kernel
theorem dX5_isSomeIdle_3 : decode cX5_isSomeIdle 3 = .ok (.istore_n 3, 1) := by decide +kernel
theorem dX5_isSomeIdle_4 : decode cX5_isSomeIdle 4 = .ok (.iload_n 3, 1) := by decide +kernel
theorem dX5_isSomeIdle_5 : decode cX5_isSomeIdle 5 = .ok (.iload_n 1, 1) := by decide +kernel
theorem dX5_isSomeIdle_6 : decode cX5_isSomeIdle 6 = .ok (.if_icmp .ge 32, 3) := by decide +kernel
theorem dX5_isSomeIdle_9 : decode cX5_isSomeIdle 9 = .ok (.iload_n 2, 1) := by decide +kernel
theorem dX5_isSomeIdle_10 : decode cX5_isSomeIdle 10 = .ok (.ifCond .ne 16, 3) := by decide +kernel
theorem dX5_isSomeIdle_13 : decode cX5_isSomeIdle 13 = .ok (.aload_n 0, 1) := by decide +kernel
theorem dX5_isSomeIdle_14 : decode cX5_isSomeIdle 14 = .ok (.aload_n 0, 1) := by decide +kernel
theorem dX5_isSomeIdle_15 : decode cX5_isSomeIdle 15 = .ok (.getfield 16, 3) := by decide +kernel
theorem dX5_isSomeIdle_18 : decode cX5_isSomeIdle 18 = .ok (.iload_n 3, 1) := by decide +kernel
theorem dX5_isSomeIdle_19 : decode cX5_isSomeIdle 19 = .ok (.iaload, 1) := by decide +kernel
theorem dX5_isSomeIdle_20 : decode cX5_isSomeIdle 20 = .ok (.invokevirtual 69, 3) := by decide +kernel
theorem dX5_isSomeIdle_23 : decode cX5_isSomeIdle 23 = .ok (.ifCond .ne 7, 3) := by decide +kernel
theorem dX5_isSomeIdle_26 : decode cX5_isSomeIdle 26 = .ok (.iconst 1, 1) := by decide +kernel
theorem dX5_isSomeIdle_27 : decode cX5_isSomeIdle 27 = .ok (.goto 4, 3) := by decide +kernel
theorem dX5_isSomeIdle_30 : decode cX5_isSomeIdle 30 = .ok (.iconst 0, 1) := by decide +kernel
theorem dX5_isSomeIdle_31 : decode cX5_isSomeIdle 31 = .ok (.istore_n 2, 1) := by decide +kernel
theorem dX5_isSomeIdle_32 : decode cX5_isSomeIdle 32 = .ok (.iinc 3 1, 3) := by decide +kernel
theorem dX5_isSomeIdle_35 : decode cX5_isSomeIdle 35 = .ok (.goto (-31), 3) := by decide +kernel
theorem dX5_isSomeIdle_38 : decode cX5_isSomeIdle 38 = .ok (.iload_n 2, 1) := by decide +kernel
theorem dX5_isSomeIdle_39 : decode cX5_isSomeIdle 39 = .ok (.ireturn, 1) := by decide +kernel
set_option maxRecDepth 20000 in
theorem ggX5_submit_X5_isDispatcher : GoodIn wsX5_submit wsX5_isDispatcher := goodIn_r _ [7, 2, 8, 9, 6, 10, 74, 75, 76, 77, 78, 79] (by decide +kernel) (by decide +kernel)
set_option maxRecDepth 20000 in
theorem gX5_submit_X5_isDispatcher : GoodIn wsX5_submit (wsV RX5 58 RX5 yX5_isDispatcher wsX5_isDispatcher) := goodIn_app (goodIn_of _ (by decide +kernel)) ggX5_submit_X5_isDispatcher
set_option maxRecDepth 20000 in
theorem ggX5_submit_X5_in : GoodIn wsX5_submit wsX5_in := goodIn_r _ [10] (by decide +kernel) (by decide +kernel)
set_option maxRecDepth 20000 in
theorem gX5_submit_X5_in : GoodIn wsX5_submit (va_wsS RX5 23 yX5_in wsX5_in) := goodIn_app (goodIn_of _ (by decide +kernel)) ggX5_submit_X5_in
set_option maxRecDepth 20000 in
theorem ggX5_submit_X5_refuse : GoodIn wsX5_submit wsX5_refuse := goodIn_r _ [14, 1, 74, 75, 76, 77, 78, 79] (by decide +kernel) (by decide +kernel)
set_option maxRecDepth 20000 in
theorem gX5_submit_X5_refuse : GoodIn wsX5_submit (wsV RX5 48 RX5 yX5_refuse wsX5_refuse) := goodIn_app (goodIn_of _ (by decide +kernel)) ggX5_submit_X5_refuse
set_option maxRecDepth 20000 in
theorem ggX5_submit_X5_findCandidates : GoodIn wsX5_submit wsX5_findCandidates := goodIn_r _ [18, 2, 19, 20, 21, 22, 6, 23, 74, 75, 76, 77, 78, 79] (by decide +kernel) (by decide +kernel)
set_option maxRecDepth 20000 in
theorem gX5_submit_X5_findCandidates : GoodIn wsX5_submit (wsV RX5 85 RX5 yX5_findCandidates wsX5_findCandidates) := goodIn_app (goodIn_of _ (by decide +kernel)) ggX5_submit_X5_findCandidates
set_option maxRecDepth 20000 in
theorem ggX5_submit_X5_save : GoodIn wsX5_submit wsX5_save := goodIn_r _ [27, 28, 29, 2, 74, 75, 76, 77, 78, 79] (by decide +kernel) (by decide +kernel)
set_option maxRecDepth 20000 in
theorem gX5_submit_X5_save : GoodIn wsX5_submit (wsV RX5 51 RX5 yX5_save wsX5_save) := goodIn_app (goodIn_of _ (by decide +kernel)) ggX5_submit_X5_save
set_option maxRecDepth 20000 in
theorem ggX5_submit_X5_taken : GoodIn wsX5_submit wsX5_taken := goodIn_r _ [33, 2, 19, 34, 35, 36, 6, 37, 38, 39, 40, 41, 42, 43, 44, 45, 46, 47, 48, 49, 50, 51, 52, 53, 54, 55, 56, 57, 58, 59, 60, 61, 74, 75, 76, 77, 78, 79] (by decide +kernel) (by decide +kernel)
set_option maxRecDepth 20000 in
theorem gX5_submit_X5_taken : GoodIn wsX5_submit (wsV RX5 89 RX5 yX5_taken wsX5_taken) := goodIn_app (goodIn_of _ (by decide +kernel)) ggX5_submit_X5_taken
set_option maxRecDepth 20000 in
theorem ggX5_submit_X5_lengthOf : GoodIn wsX5_submit wsX5_lengthOf := goodIn_r _ [53, 2, 54, 55, 56, 6, 57, 74, 75, 76, 77, 78, 79] (by decide +kernel) (by decide +kernel)
set_option maxRecDepth 20000 in
theorem gX5_submit_X5_lengthOf : GoodIn wsX5_submit (wsV RX5 69 RX5 yX5_lengthOf wsX5_lengthOf) := goodIn_app (goodIn_of _ (by decide +kernel)) ggX5_submit_X5_lengthOf
set_option maxRecDepth 20000 in
theorem ggX5_submit_X5_isSomeIdle : GoodIn wsX5_submit wsX5_isSomeIdle := goodIn_r _ [65, 19, 50, 51, 52, 6, 53, 2, 54, 55, 56, 57, 74, 75, 76, 77, 78, 79] (by decide +kernel) (by decide +kernel)
set_option maxRecDepth 20000 in
theorem gX5_submit_X5_isSomeIdle : GoodIn wsX5_submit (wsV RX5 92 RX5 yX5_isSomeIdle wsX5_isSomeIdle) := goodIn_app (goodIn_of _ (by decide +kernel)) ggX5_submit_X5_isSomeIdle
set_option maxRecDepth 20000 in
theorem ggX5_submit_X5_leave : GoodIn wsX5_submit wsX5_leave := goodIn_r _ [69, 2, 70, 71, 72, 6, 73, 74, 75, 76, 77, 78, 79] (by decide +kernel) (by decide +kernel)
set_option maxRecDepth 20000 in
theorem gX5_submit_X5_leave : GoodIn wsX5_submit (wsV RX5 72 RX5 yX5_leave wsX5_leave) := goodIn_app (goodIn_of _ (by decide +kernel)) ggX5_submit_X5_leave
theorem dX5_submit_0 : decode cX5_submit 0 = .ok (.aload_n 0, 1) := by decide +kernel
theorem dX5_submit_1 : decode cX5_submit 1 = .ok (.iconst 0, 1) := by decide +kernel
theorem dX5_submit_2 : decode cX5_submit 2 = .ok (.putfield 19, 3) := by decide +kernel
theorem dX5_submit_5 : decode cX5_submit 5 = .ok (.aload_n 0, 1) := by decide +kernel
theorem dX5_submit_6 : decode cX5_submit 6 = .ok (.iload_n 1, 1) := by decide +kernel
theorem dX5_submit_7 : decode cX5_submit 7 = .ok (.invokevirtual 58, 3) := by decide +kernel
theorem dX5_submit_10 : decode cX5_submit 10 = .ok (.ifCond .eq 13, 3) := by decide +kernel
theorem dX5_submit_13 : decode cX5_submit 13 = .ok (.iload_n 2, 1) := by decide +kernel
theorem dX5_submit_14 : decode cX5_submit 14 = .ok (.iconst 1, 1) := by decide +kernel
theorem dX5_submit_15 : decode cX5_submit 15 = .ok (.bipush 20, 2) := by decide +kernel
theorem dX5_submit_17 : decode cX5_submit 17 = .ok (.invokestatic 23, 3) := by decide +kernel
theorem dX5_submit_20 : decode cX5_submit 20 = .ok (.ifCond .ne 9, 3) := by decide +kernel
theorem dX5_submit_23 : decode cX5_submit 23 = .ok (.aload_n 0, 1) := by decide +kernel
theorem dX5_submit_24 : decode cX5_submit 24 = .ok (.iconst 1, 1) := by decide +kernel
theorem dX5_submit_25 : decode cX5_submit 25 = .ok (.invokevirtual 48, 3) := by decide +kernel
theorem dX5_submit_28 : decode cX5_submit 28 = .ok (.ireturn, 1) := by decide +kernel
theorem dX5_submit_29 : decode cX5_submit 29 = .ok (.aload_n 0, 1) := by decide +kernel
theorem dX5_submit_30 : decode cX5_submit 30 = .ok (.invokevirtual 85, 3) := by decide +kernel
theorem dX5_submit_33 : decode cX5_submit 33 = .ok (.istore_n 3, 1) := by decide +kernel
theorem dX5_submit_34 : decode cX5_submit 34 = .ok (.iload_n 3, 1) := by decide +kernel
theorem dX5_submit_35 : decode cX5_submit 35 = .ok (.ifCond .eq 16, 3) := by decide +kernel
theorem dX5_submit_38 : decode cX5_submit 38 = .ok (.aload_n 0, 1) := by decide +kernel
theorem dX5_submit_39 : decode cX5_submit 39 = .ok (.getfield 7, 3) := by decide +kernel
theorem dX5_submit_42 : decode cX5_submit 42 = .ok (.bipush 6, 2) := by decide +kernel
theorem dX5_submit_44 : decode cX5_submit 44 = .ok (.iaload, 1) := by decide +kernel
theorem dX5_submit_45 : decode cX5_submit 45 = .ok (.sipush 200, 3) := by decide +kernel
theorem dX5_submit_48 : decode cX5_submit 48 = .ok (.if_icmp .ne 9, 3) := by decide +kernel
theorem dX5_submit_51 : decode cX5_submit 51 = .ok (.aload_n 0, 1) := by decide +kernel
theorem dX5_submit_52 : decode cX5_submit 52 = .ok (.iconst 2, 1) := by decide +kernel
theorem dX5_submit_53 : decode cX5_submit 53 = .ok (.invokevirtual 48, 3) := by decide +kernel
theorem dX5_submit_56 : decode cX5_submit 56 = .ok (.ireturn, 1) := by decide +kernel
theorem dX5_submit_57 : decode cX5_submit 57 = .ok (.aload_n 0, 1) := by decide +kernel
theorem dX5_submit_58 : decode cX5_submit 58 = .ok (.invokevirtual 51, 3) := by decide +kernel
theorem dX5_submit_61 : decode cX5_submit 61 = .ok (.aload_n 0, 1) := by decide +kernel
theorem dX5_submit_62 : decode cX5_submit 62 = .ok (.iload_n 1, 1) := by decide +kernel
theorem dX5_submit_63 : decode cX5_submit 63 = .ok (.iload_n 3, 1) := by decide +kernel
theorem dX5_submit_64 : decode cX5_submit 64 = .ok (.invokevirtual 89, 3) := by decide +kernel
theorem dX5_submit_67 : decode cX5_submit 67 = .ok (.istore 4, 2) := by decide +kernel
theorem dX5_submit_69 : decode cX5_submit 69 = .ok (.aload_n 0, 1) := by decide +kernel
theorem dX5_submit_70 : decode cX5_submit 70 = .ok (.iload 4, 2) := by decide +kernel
theorem dX5_submit_72 : decode cX5_submit 72 = .ok (.invokevirtual 69, 3) := by decide +kernel
theorem dX5_submit_75 : decode cX5_submit 75 = .ok (.istore 5, 2) := by decide +kernel
theorem dX5_submit_77 : decode cX5_submit 77 = .ok (.aload_n 0, 1) := by decide +kernel
theorem dX5_submit_78 : decode cX5_submit 78 = .ok (.getfield 7, 3) := by decide +kernel
theorem dX5_submit_81 : decode cX5_submit 81 = .ok (.bipush 8, 2) := by decide +kernel
theorem dX5_submit_83 : decode cX5_submit 83 = .ok (.dup2, 1) := by decide +kernel
theorem dX5_submit_84 : decode cX5_submit 84 = .ok (.iaload, 1) := by decide +kernel
theorem dX5_submit_85 : decode cX5_submit 85 = .ok (.iload 5, 2) := by decide +kernel
theorem dX5_submit_87 : decode cX5_submit 87 = .ok (.ifCond .le 15, 3) := by decide +kernel
theorem dX5_submit_90 : decode cX5_submit 90 = .ok (.aload_n 0, 1) := by decide +kernel
theorem dX5_submit_91 : decode cX5_submit 91 = .ok (.iload_n 3, 1) := by decide +kernel
theorem dX5_submit_92 : decode cX5_submit 92 = .ok (.invokevirtual 92, 3) := by decide +kernel
theorem dX5_submit_95 : decode cX5_submit 95 = .ok (.ifCond .eq 7, 3) := by decide +kernel
theorem dX5_submit_98 : decode cX5_submit 98 = .ok (.iconst 1, 1) := by decide +kernel
theorem dX5_submit_99 : decode cX5_submit 99 = .ok (.goto 4, 3) := by decide +kernel
theorem dX5_submit_102 : decode cX5_submit 102 = .ok (.iconst 0, 1) := by decide +kernel
theorem dX5_submit_103 : decode cX5_submit 103 = .ok (.iadd, 1) := by decide +kernel
theorem dX5_submit_104 : decode cX5_submit 104 = .ok (.iastore, 1) := by decide +kernel
theorem dX5_submit_105 : decode cX5_submit 105 = .ok (.aload_n 0, 1) := by decide +kernel
theorem dX5_submit_106 : decode cX5_submit 106 = .ok (.iload 4, 2) := by decide +kernel
theorem dX5_submit_108 : decode cX5_submit 108 = .ok (.invokevirtual 72, 3) := by decide +kernel
theorem dX5_submit_111 : decode cX5_submit 111 = .ok (.aload_n 0, 1) := by decide +kernel
theorem dX5_submit_112 : decode cX5_submit 112 = .ok (.getfield 7, 3) := by decide +kernel
theorem dX5_submit_115 : decode cX5_submit 115 = .ok (.bipush 6, 2) := by decide +kernel
theorem dX5_submit_117 : decode cX5_submit 117 = .ok (.iaload, 1) := by decide +kernel
theorem dX5_submit_118 : decode cX5_submit 118 = .ok (.istore 6, 2) := by decide +kernel
theorem dX5_submit_120 : decode cX5_submit 120 = .ok (.aload_n 0, 1) := by decide +kernel
theorem dX5_submit_121 : decode cX5_submit 121 = .ok (.getfield 7, 3) := by decide +kernel
theorem dX5_submit_124 : decode cX5_submit 124 = .ok (.bipush 93, 2) := by decide +kernel
theorem dX5_submit_126 : decode cX5_submit 126 = .ok (.iload 6, 2) := by decide +kernel
theorem dX5_submit_128 : decode cX5_submit 128 = .ok (.iadd, 1) := by decide +kernel
theorem dX5_submit_129 : decode cX5_submit 129 = .ok (.iload 4, 2) := by decide +kernel
theorem dX5_submit_131 : decode cX5_submit 131 = .ok (.iastore, 1) := by decide +kernel
theorem dX5_submit_132 : decode cX5_submit 132 = .ok (.aload_n 0, 1) := by decide +kernel
theorem dX5_submit_133 : decode cX5_submit 133 = .ok (.getfield 7, 3) := by decide +kernel
theorem dX5_submit_136 : decode cX5_submit 136 = .ok (.sipush 293, 3) := by decide +kernel
theorem dX5_submit_139 : decode cX5_submit 139 = .ok (.iload 6, 2) := by decide +kernel
theorem dX5_submit_141 : decode cX5_submit 141 = .ok (.iadd, 1) := by decide +kernel
theorem dX5_submit_142 : decode cX5_submit 142 = .ok (.iload_n 2, 1) := by decide +kernel
theorem dX5_submit_143 : decode cX5_submit 143 = .ok (.iastore, 1) := by decide +kernel
theorem dX5_submit_144 : decode cX5_submit 144 = .ok (.aload_n 0, 1) := by decide +kernel
theorem dX5_submit_145 : decode cX5_submit 145 = .ok (.getfield 7, 3) := by decide +kernel
theorem dX5_submit_148 : decode cX5_submit 148 = .ok (.sipush 493, 3) := by decide +kernel
theorem dX5_submit_151 : decode cX5_submit 151 = .ok (.iload 6, 2) := by decide +kernel
theorem dX5_submit_153 : decode cX5_submit 153 = .ok (.iadd, 1) := by decide +kernel
theorem dX5_submit_154 : decode cX5_submit 154 = .ok (.iload 5, 2) := by decide +kernel
theorem dX5_submit_156 : decode cX5_submit 156 = .ok (.ifCond .ne 7, 3) := by decide +kernel
theorem dX5_submit_159 : decode cX5_submit 159 = .ok (.iconst 0, 1) := by decide +kernel
theorem dX5_submit_160 : decode cX5_submit 160 = .ok (.goto 4, 3) := by decide +kernel
theorem dX5_submit_163 : decode cX5_submit 163 = .ok (.iconst (-1), 1) := by decide +kernel
theorem dX5_submit_164 : decode cX5_submit 164 = .ok (.iastore, 1) := by decide +kernel
theorem dX5_submit_165 : decode cX5_submit 165 = .ok (.aload_n 0, 1) := by decide +kernel
theorem dX5_submit_166 : decode cX5_submit 166 = .ok (.getfield 7, 3) := by decide +kernel
theorem dX5_submit_169 : decode cX5_submit 169 = .ok (.sipush 693, 3) := by decide +kernel
theorem dX5_submit_172 : decode cX5_submit 172 = .ok (.iload 6, 2) := by decide +kernel
theorem dX5_submit_174 : decode cX5_submit 174 = .ok (.iadd, 1) := by decide +kernel
theorem dX5_submit_175 : decode cX5_submit 175 = .ok (.aload_n 0, 1) := by decide +kernel
theorem dX5_submit_176 : decode cX5_submit 176 = .ok (.getfield 7, 3) := by decide +kernel
theorem dX5_submit_179 : decode cX5_submit 179 = .ok (.iconst 1, 1) := by decide +kernel
theorem dX5_submit_180 : decode cX5_submit 180 = .ok (.iaload, 1) := by decide +kernel
theorem dX5_submit_181 : decode cX5_submit 181 = .ok (.iastore, 1) := by decide +kernel
theorem dX5_submit_182 : decode cX5_submit 182 = .ok (.aload_n 0, 1) := by decide +kernel
theorem dX5_submit_183 : decode cX5_submit 183 = .ok (.getfield 7, 3) := by decide +kernel
theorem dX5_submit_186 : decode cX5_submit 186 = .ok (.bipush 6, 2) := by decide +kernel
theorem dX5_submit_188 : decode cX5_submit 188 = .ok (.dup2, 1) := by decide +kernel
theorem dX5_submit_189 : decode cX5_submit 189 = .ok (.iaload, 1) := by decide +kernel
theorem dX5_submit_190 : decode cX5_submit 190 = .ok (.iconst 1, 1) := by decide +kernel
theorem dX5_submit_191 : decode cX5_submit 191 = .ok (.iadd, 1) := by decide +kernel
theorem dX5_submit_192 : decode cX5_submit 192 = .ok (.iastore, 1) := by decide +kernel
theorem dX5_submit_193 : decode cX5_submit 193 = .ok (.iload 4, 2) := by decide +kernel
theorem dX5_submit_195 : decode cX5_submit 195 = .ok (.ireturn, 1) := by decide +kernel
set_option maxRecDepth 20000 in
theorem ggX5_serve_X5_firstJob : GoodIn wsX5_serve wsX5_firstJob := goodIn_r _ [6, 1, 7, 8, 9, 5, 10, 27, 28, 29, 30, 31, 32] (by decide +kernel) (by decide +kernel)
set_option maxRecDepth 20000 in
theorem gX5_serve_X5_firstJob : GoodIn wsX5_serve (wsV RX5 95 RX5 yX5_firstJob wsX5_firstJob) := goodIn_app (goodIn_of _ (by decide +kernel)) ggX5_serve_X5_firstJob
set_option maxRecDepth 20000 in
theorem ggX5_serve_X5_isUp : GoodIn wsX5_serve wsX5_isUp := goodIn_r _ [14, 1, 27, 28, 29, 30, 31, 32] (by decide +kernel) (by decide +kernel)
set_option maxRecDepth 20000 in
theorem gX5_serve_X5_isUp : GoodIn wsX5_serve (wsV RX5 66 RX5 yX5_isUp wsX5_isUp) := goodIn_app (goodIn_of _ (by decide +kernel)) ggX5_serve_X5_isUp
set_option maxRecDepth 20000 in
theorem ggX5_serve_X5_register : GoodIn wsX5_serve wsX5_register := goodIn_r _ [18, 1, 19, 20, 21, 5, 22, 23, 24, 25, 26, 27, 28, 29, 30, 31, 32] (by decide +kernel) (by decide +kernel)
set_option maxRecDepth 20000 in
theorem gX5_serve_X5_register : GoodIn wsX5_serve (wsV RX5 54 RX5 yX5_register wsX5_register) := goodIn_app (goodIn_of _ (by decide +kernel)) ggX5_serve_X5_register
theorem dX5_serve_0 : decode cX5_serve 0 = .ok (.aload_n 0, 1) := by decide +kernel
theorem dX5_serve_1 : decode cX5_serve 1 = .ok (.iload_n 1, 1) := by decide +kernel
theorem dX5_serve_2 : decode cX5_serve 2 = .ok (.invokevirtual 95, 3) := by decide +kernel
theorem dX5_serve_5 : decode cX5_serve 5 = .ok (.istore_n 2, 1) := by decide +kernel
theorem dX5_serve_6 : decode cX5_serve 6 = .ok (.iload_n 2, 1) := by decide +kernel
theorem dX5_serve_7 : decode cX5_serve 7 = .ok (.iconst (-1), 1) := by decide +kernel
theorem dX5_serve_8 : decode cX5_serve 8 = .ok (.if_icmp .ne 4, 3) := by decide +kernel
theorem dX5_serve_11 : decode cX5_serve 11 = .ok (.return_, 1) := by decide +kernel
theorem dX5_serve_12 : decode cX5_serve 12 = .ok (.aload_n 0, 1) := by decide +kernel
theorem dX5_serve_13 : decode cX5_serve 13 = .ok (.getfield 7, 3) := by decide +kernel
theorem dX5_serve_16 : decode cX5_serve 16 = .ok (.sipush 293, 3) := by decide +kernel
theorem dX5_serve_19 : decode cX5_serve 19 = .ok (.iload_n 2, 1) := by decide +kernel
theorem dX5_serve_20 : decode cX5_serve 20 = .ok (.iadd, 1) := by decide +kernel
theorem dX5_serve_21 : decode cX5_serve 21 = .ok (.dup2, 1) := by decide +kernel
theorem dX5_serve_22 : decode cX5_serve 22 = .ok (.iaload, 1) := by decide +kernel
theorem dX5_serve_23 : decode cX5_serve 23 = .ok (.iconst 1, 1) := by decide +kernel
theorem dX5_serve_24 : decode cX5_serve 24 = .ok (.isub, 1) := by decide +kernel
theorem dX5_serve_25 : decode cX5_serve 25 = .ok (.iastore, 1) := by decide +kernel
theorem dX5_serve_26 : decode cX5_serve 26 = .ok (.aload_n 0, 1) := by decide +kernel
theorem dX5_serve_27 : decode cX5_serve 27 = .ok (.getfield 7, 3) := by decide +kernel
theorem dX5_serve_30 : decode cX5_serve 30 = .ok (.sipush 293, 3) := by decide +kernel
theorem dX5_serve_33 : decode cX5_serve 33 = .ok (.iload_n 2, 1) := by decide +kernel
theorem dX5_serve_34 : decode cX5_serve 34 = .ok (.iadd, 1) := by decide +kernel
theorem dX5_serve_35 : decode cX5_serve 35 = .ok (.iaload, 1) := by decide +kernel
theorem dX5_serve_36 : decode cX5_serve 36 = .ok (.ifCond .le 4, 3) := by decide +kernel
theorem dX5_serve_39 : decode cX5_serve 39 = .ok (.return_, 1) := by decide +kernel
theorem dX5_serve_40 : decode cX5_serve 40 = .ok (.aload_n 0, 1) := by decide +kernel
theorem dX5_serve_41 : decode cX5_serve 41 = .ok (.getfield 7, 3) := by decide +kernel
theorem dX5_serve_44 : decode cX5_serve 44 = .ok (.bipush 7, 2) := by decide +kernel
theorem dX5_serve_46 : decode cX5_serve 46 = .ok (.dup2, 1) := by decide +kernel
theorem dX5_serve_47 : decode cX5_serve 47 = .ok (.iaload, 1) := by decide +kernel
theorem dX5_serve_48 : decode cX5_serve 48 = .ok (.iconst 1, 1) := by decide +kernel
theorem dX5_serve_49 : decode cX5_serve 49 = .ok (.iadd, 1) := by decide +kernel
theorem dX5_serve_50 : decode cX5_serve 50 = .ok (.iastore, 1) := by decide +kernel
theorem dX5_serve_51 : decode cX5_serve 51 = .ok (.aload_n 0, 1) := by decide +kernel
theorem dX5_serve_52 : decode cX5_serve 52 = .ok (.iload_n 1, 1) := by decide +kernel
theorem dX5_serve_53 : decode cX5_serve 53 = .ok (.invokevirtual 95, 3) := by decide +kernel
theorem dX5_serve_56 : decode cX5_serve 56 = .ok (.istore_n 3, 1) := by decide +kernel
theorem dX5_serve_57 : decode cX5_serve 57 = .ok (.iload_n 3, 1) := by decide +kernel
theorem dX5_serve_58 : decode cX5_serve 58 = .ok (.iconst (-1), 1) := by decide +kernel
theorem dX5_serve_59 : decode cX5_serve 59 = .ok (.if_icmp .eq 33, 3) := by decide +kernel
theorem dX5_serve_62 : decode cX5_serve 62 = .ok (.aload_n 0, 1) := by decide +kernel
theorem dX5_serve_63 : decode cX5_serve 63 = .ok (.getfield 7, 3) := by decide +kernel
theorem dX5_serve_66 : decode cX5_serve 66 = .ok (.sipush 493, 3) := by decide +kernel
theorem dX5_serve_69 : decode cX5_serve 69 = .ok (.iload_n 3, 1) := by decide +kernel
theorem dX5_serve_70 : decode cX5_serve 70 = .ok (.iadd, 1) := by decide +kernel
theorem dX5_serve_71 : decode cX5_serve 71 = .ok (.aload_n 0, 1) := by decide +kernel
theorem dX5_serve_72 : decode cX5_serve 72 = .ok (.getfield 7, 3) := by decide +kernel
theorem dX5_serve_75 : decode cX5_serve 75 = .ok (.iconst 1, 1) := by decide +kernel
theorem dX5_serve_76 : decode cX5_serve 76 = .ok (.iaload, 1) := by decide +kernel
theorem dX5_serve_77 : decode cX5_serve 77 = .ok (.aload_n 0, 1) := by decide +kernel
theorem dX5_serve_78 : decode cX5_serve 78 = .ok (.getfield 7, 3) := by decide +kernel
theorem dX5_serve_81 : decode cX5_serve 81 = .ok (.sipush 693, 3) := by decide +kernel
theorem dX5_serve_84 : decode cX5_serve 84 = .ok (.iload_n 3, 1) := by decide +kernel
theorem dX5_serve_85 : decode cX5_serve 85 = .ok (.iadd, 1) := by decide +kernel
theorem dX5_serve_86 : decode cX5_serve 86 = .ok (.iaload, 1) := by decide +kernel
theorem dX5_serve_87 : decode cX5_serve 87 = .ok (.isub, 1) := by decide +kernel
theorem dX5_serve_88 : decode cX5_serve 88 = .ok (.iastore, 1) := by decide +kernel
theorem dX5_serve_89 : decode cX5_serve 89 = .ok (.goto 16, 3) := by decide +kernel
theorem dX5_serve_92 : decode cX5_serve 92 = .ok (.aload_n 0, 1) := by decide +kernel
theorem dX5_serve_93 : decode cX5_serve 93 = .ok (.iload_n 1, 1) := by decide +kernel
theorem dX5_serve_94 : decode cX5_serve 94 = .ok (.invokevirtual 66, 3) := by decide +kernel
theorem dX5_serve_97 : decode cX5_serve 97 = .ok (.ifCond .eq 8, 3) := by decide +kernel
theorem dX5_serve_100 : decode cX5_serve 100 = .ok (.aload_n 0, 1) := by decide +kernel
theorem dX5_serve_101 : decode cX5_serve 101 = .ok (.iload_n 1, 1) := by decide +kernel
theorem dX5_serve_102 : decode cX5_serve 102 = .ok (.invokevirtual 54, 3) := by decide +kernel
theorem dX5_serve_105 : decode cX5_serve 105 = .ok (.return_, 1) := by decide +kernel
set_option maxRecDepth 20000 in
theorem ggX5_report_X5_lengthOf : GoodIn wsX5_report wsX5_lengthOf := goodIn_r _ [6, 1, 7, 8, 9, 5, 10, 11, 12, 13, 14, 15, 16] (by decide +kernel) (by decide +kernel)
set_option maxRecDepth 20000 in
theorem gX5_report_X5_lengthOf : GoodIn wsX5_report (wsV RX5 69 RX5 yX5_lengthOf wsX5_lengthOf) := goodIn_app (goodIn_of _ (by decide +kernel)) ggX5_report_X5_lengthOf
theorem dX5_report_0 : decode cX5_report 0 = .ok (.iconst 0, 1) := by decide +kernel
theorem dX5_report_1 : decode cX5_report 1 = .ok (.istore_n 1, 1) := by decide +kernel
theorem dX5_report_2 : decode cX5_report 2 = .ok (.iload_n 1, 1) := by decide +kernel
theorem dX5_report_3 : decode cX5_report 3 = .ok (.aload_n 0, 1) := by decide +kernel
theorem dX5_report_4 : decode cX5_report 4 = .ok (.getfield 7, 3) := by decide +kernel
theorem dX5_report_7 : decode cX5_report 7 = .ok (.iconst 4, 1) := by decide +kernel
theorem dX5_report_8 : decode cX5_report 8 = .ok (.iaload, 1) := by decide +kernel
theorem dX5_report_9 : decode cX5_report 9 = .ok (.if_icmp .ge 48, 3) := by decide +kernel
theorem dX5_report_12 : decode cX5_report 12 = .ok (.aload_n 0, 1) := by decide +kernel
theorem dX5_report_13 : decode cX5_report 13 = .ok (.iload_n 1, 1) := by decide +kernel
theorem dX5_report_14 : decode cX5_report 14 = .ok (.invokevirtual 69, 3) := by decide +kernel
theorem dX5_report_17 : decode cX5_report 17 = .ok (.istore_n 2, 1) := by decide +kernel
theorem dX5_report_18 : decode cX5_report 18 = .ok (.iconst 0, 1) := by decide +kernel
theorem dX5_report_19 : decode cX5_report 19 = .ok (.istore_n 3, 1) := by decide +kernel
theorem dX5_report_20 : decode cX5_report 20 = .ok (.iload_n 3, 1) := by decide +kernel
theorem dX5_report_21 : decode cX5_report 21 = .ok (.aload_n 0, 1) := by decide +kernel
theorem dX5_report_22 : decode cX5_report 22 = .ok (.getfield 7, 3) := by decide +kernel
theorem dX5_report_25 : decode cX5_report 25 = .ok (.iconst 5, 1) := by decide +kernel
theorem dX5_report_26 : decode cX5_report 26 = .ok (.iaload, 1) := by decide +kernel
theorem dX5_report_27 : decode cX5_report 27 = .ok (.if_icmp .ge 24, 3) := by decide +kernel
theorem dX5_report_30 : decode cX5_report 30 = .ok (.aload_n 0, 1) := by decide +kernel
theorem dX5_report_31 : decode cX5_report 31 = .ok (.getfield 7, 3) := by decide +kernel
theorem dX5_report_34 : decode cX5_report 34 = .ok (.bipush 25, 2) := by decide +kernel
theorem dX5_report_36 : decode cX5_report 36 = .ok (.bipush 8, 2) := by decide +kernel
theorem dX5_report_38 : decode cX5_report 38 = .ok (.iload_n 3, 1) := by decide +kernel
theorem dX5_report_39 : decode cX5_report 39 = .ok (.imul, 1) := by decide +kernel
theorem dX5_report_40 : decode cX5_report 40 = .ok (.iadd, 1) := by decide +kernel
theorem dX5_report_41 : decode cX5_report 41 = .ok (.iload_n 1, 1) := by decide +kernel
theorem dX5_report_42 : decode cX5_report 42 = .ok (.iadd, 1) := by decide +kernel
theorem dX5_report_43 : decode cX5_report 43 = .ok (.iload_n 2, 1) := by decide +kernel
theorem dX5_report_44 : decode cX5_report 44 = .ok (.iastore, 1) := by decide +kernel
theorem dX5_report_45 : decode cX5_report 45 = .ok (.iinc 3 1, 3) := by decide +kernel
theorem dX5_report_48 : decode cX5_report 48 = .ok (.goto (-28), 3) := by decide +kernel
theorem dX5_report_51 : decode cX5_report 51 = .ok (.iinc 1 1, 3) := by decide +kernel
theorem dX5_report_54 : decode cX5_report 54 = .ok (.goto (-52), 3) := by decide +kernel
theorem dX5_report_57 : decode cX5_report 57 = .ok (.return_, 1) := by decide +kernel
set_option maxRecDepth 20000 in
theorem ggX5_tick_X5_in : GoodIn wsX5_tick wsX5_in := goodIn_r _ [6] (by decide +kernel) (by decide +kernel)
set_option maxRecDepth 20000 in
theorem gX5_tick_X5_in : GoodIn wsX5_tick (va_wsS RX5 23 yX5_in wsX5_in) := goodIn_app (goodIn_of _ (by decide +kernel)) ggX5_tick_X5_in
set_option maxRecDepth 20000 in
theorem ggX5_tick_X5_refuse : GoodIn wsX5_tick wsX5_refuse := goodIn_r _ [10, 1, 53, 54, 55, 56, 57, 58] (by decide +kernel) (by decide +kernel)
set_option maxRecDepth 20000 in
theorem gX5_tick_X5_refuse : GoodIn wsX5_tick (wsV RX5 48 RX5 yX5_refuse wsX5_refuse) := goodIn_app (goodIn_of _ (by decide +kernel)) ggX5_tick_X5_refuse
set_option maxRecDepth 20000 in
theorem ggX5_tick_X5_save : GoodIn wsX5_tick wsX5_save := goodIn_r _ [14, 15, 16, 2, 53, 54, 55, 56, 57, 58] (by decide +kernel) (by decide +kernel)
set_option maxRecDepth 20000 in
theorem gX5_tick_X5_save : GoodIn wsX5_tick (wsV RX5 51 RX5 yX5_save wsX5_save) := goodIn_app (goodIn_of _ (by decide +kernel)) ggX5_tick_X5_save
set_option maxRecDepth 20000 in
theorem ggX5_tick_X5_serve : GoodIn wsX5_tick wsX5_serve := goodIn_r _ [20, 2, 21, 22, 23, 5, 24, 25, 26, 27, 28, 29, 30, 31, 32, 33, 34, 35, 36, 37, 38, 39, 40, 41, 42, 43, 44, 53, 54, 55, 56, 57, 58] (by decide +kernel) (by decide +kernel)
set_option maxRecDepth 20000 in
theorem gX5_tick_X5_serve : GoodIn wsX5_tick (wsV RX5 98 RX5 yX5_serve wsX5_serve) := goodIn_app (goodIn_of _ (by decide +kernel)) ggX5_tick_X5_serve
set_option maxRecDepth 20000 in
theorem ggX5_tick_X5_report : GoodIn wsX5_tick wsX5_report := goodIn_r _ [48, 2, 49, 50, 51, 5, 52, 25, 26, 27, 28, 53, 54, 55, 56, 57, 58] (by decide +kernel) (by decide +kernel)
set_option maxRecDepth 20000 in
theorem gX5_tick_X5_report : GoodIn wsX5_tick (wsV RX5 101 RX5 yX5_report wsX5_report) := goodIn_app (goodIn_of _ (by decide +kernel)) ggX5_tick_X5_report
theorem dX5_tick_0 : decode cX5_tick 0 = .ok (.aload_n 0, 1) := by decide +kernel
theorem dX5_tick_1 : decode cX5_tick 1 = .ok (.iconst 0, 1) := by decide +kernel
theorem dX5_tick_2 : decode cX5_tick 2 = .ok (.putfield 19, 3) := by decide +kernel
theorem dX5_tick_5 : decode cX5_tick 5 = .ok (.iload_n 1, 1) := by decide +kernel
theorem dX5_tick_6 : decode cX5_tick 6 = .ok (.iconst 0, 1) := by decide +kernel
theorem dX5_tick_7 : decode cX5_tick 7 = .ok (.sipush 500, 3) := by decide +kernel
theorem dX5_tick_10 : decode cX5_tick 10 = .ok (.invokestatic 23, 3) := by decide +kernel
theorem dX5_tick_13 : decode cX5_tick 13 = .ok (.ifCond .ne 9, 3) := by decide +kernel
theorem dX5_tick_16 : decode cX5_tick 16 = .ok (.aload_n 0, 1) := by decide +kernel
theorem dX5_tick_17 : decode cX5_tick 17 = .ok (.iconst 1, 1) := by decide +kernel
theorem dX5_tick_18 : decode cX5_tick 18 = .ok (.invokevirtual 48, 3) := by decide +kernel
theorem dX5_tick_21 : decode cX5_tick 21 = .ok (.ireturn, 1) := by decide +kernel
theorem dX5_tick_22 : decode cX5_tick 22 = .ok (.aload_n 0, 1) := by decide +kernel
theorem dX5_tick_23 : decode cX5_tick 23 = .ok (.invokevirtual 51, 3) := by decide +kernel
theorem dX5_tick_26 : decode cX5_tick 26 = .ok (.aload_n 0, 1) := by decide +kernel
theorem dX5_tick_27 : decode cX5_tick 27 = .ok (.getfield 7, 3) := by decide +kernel
theorem dX5_tick_30 : decode cX5_tick 30 = .ok (.bipush 7, 2) := by decide +kernel
theorem dX5_tick_32 : decode cX5_tick 32 = .ok (.iaload, 1) := by decide +kernel
theorem dX5_tick_33 : decode cX5_tick 33 = .ok (.istore_n 2, 1) := by decide +kernel
theorem dX5_tick_34 : decode cX5_tick 34 = .ok (.iconst 0, 1) := by decide +kernel
theorem dX5_tick_35 : decode cX5_tick 35 = .ok (.istore_n 3, 1) := by decide +kernel
theorem dX5_tick_36 : decode cX5_tick 36 = .ok (.iload_n 3, 1) := by decide +kernel
theorem dX5_tick_37 : decode cX5_tick 37 = .ok (.iload_n 1, 1) := by decide +kernel
theorem dX5_tick_38 : decode cX5_tick 38 = .ok (.if_icmp .ge 65, 3) := by decide +kernel
theorem dX5_tick_41 : decode cX5_tick 41 = .ok (.aload_n 0, 1) := by decide +kernel
theorem dX5_tick_42 : decode cX5_tick 42 = .ok (.getfield 7, 3) := by decide +kernel
theorem dX5_tick_45 : decode cX5_tick 45 = .ok (.iconst 1, 1) := by decide +kernel
theorem dX5_tick_46 : decode cX5_tick 46 = .ok (.dup2, 1) := by decide +kernel
theorem dX5_tick_47 : decode cX5_tick 47 = .ok (.iaload, 1) := by decide +kernel
theorem dX5_tick_48 : decode cX5_tick 48 = .ok (.iconst 1, 1) := by decide +kernel
theorem dX5_tick_49 : decode cX5_tick 49 = .ok (.iadd, 1) := by decide +kernel
theorem dX5_tick_50 : decode cX5_tick 50 = .ok (.iastore, 1) := by decide +kernel
theorem dX5_tick_51 : decode cX5_tick 51 = .ok (.iconst 0, 1) := by decide +kernel
theorem dX5_tick_52 : decode cX5_tick 52 = .ok (.istore 4, 2) := by decide +kernel
theorem dX5_tick_54 : decode cX5_tick 54 = .ok (.iload 4, 2) := by decide +kernel
theorem dX5_tick_56 : decode cX5_tick 56 = .ok (.aload_n 0, 1) := by decide +kernel
theorem dX5_tick_57 : decode cX5_tick 57 = .ok (.getfield 7, 3) := by decide +kernel
theorem dX5_tick_60 : decode cX5_tick 60 = .ok (.iconst 4, 1) := by decide +kernel
theorem dX5_tick_61 : decode cX5_tick 61 = .ok (.iaload, 1) := by decide +kernel
theorem dX5_tick_62 : decode cX5_tick 62 = .ok (.if_icmp .ge 15, 3) := by decide +kernel
theorem dX5_tick_65 : decode cX5_tick 65 = .ok (.aload_n 0, 1) := by decide +kernel
theorem dX5_tick_66 : decode cX5_tick 66 = .ok (.iload 4, 2) := by decide +kernel
theorem dX5_tick_68 : decode cX5_tick 68 = .ok (.invokevirtual 98, 3) := by decide +kernel
theorem dX5_tick_71 : decode cX5_tick 71 = .ok (.iinc 4 1, 3) := by decide +kernel
theorem dX5_tick_74 : decode cX5_tick 74 = .ok (.goto (-20), 3) := by decide +kernel
theorem dX5_tick_77 : decode cX5_tick 77 = .ok (.aload_n 0, 1) := by decide +kernel
theorem dX5_tick_78 : decode cX5_tick 78 = .ok (.getfield 7, 3) := by decide +kernel
theorem dX5_tick_81 : decode cX5_tick 81 = .ok (.iconst 1, 1) := by decide +kernel
theorem dX5_tick_82 : decode cX5_tick 82 = .ok (.iaload, 1) := by decide +kernel
theorem dX5_tick_83 : decode cX5_tick 83 = .ok (.aload_n 0, 1) := by decide +kernel
theorem dX5_tick_84 : decode cX5_tick 84 = .ok (.getfield 7, 3) := by decide +kernel
theorem dX5_tick_87 : decode cX5_tick 87 = .ok (.iconst 3, 1) := by decide +kernel
theorem dX5_tick_88 : decode cX5_tick 88 = .ok (.iaload, 1) := by decide +kernel
theorem dX5_tick_89 : decode cX5_tick 89 = .ok (.irem, 1) := by decide +kernel
theorem dX5_tick_90 : decode cX5_tick 90 = .ok (.ifCond .ne 7, 3) := by decide +kernel
theorem dX5_tick_93 : decode cX5_tick 93 = .ok (.aload_n 0, 1) := by decide +kernel
theorem dX5_tick_94 : decode cX5_tick 94 = .ok (.invokevirtual 101, 3) := by decide +kernel
theorem dX5_tick_97 : decode cX5_tick 97 = .ok (.iinc 3 1, 3) := by decide +kernel
theorem dX5_tick_100 : decode cX5_tick 100 = .ok (.goto (-64), 3) := by decide +kernel
theorem dX5_tick_103 : decode cX5_tick 103 = .ok (.aload_n 0, 1) := by decide +kernel
theorem dX5_tick_104 : decode cX5_tick 104 = .ok (.getfield 7, 3) := by decide +kernel
theorem dX5_tick_107 : decode cX5_tick 107 = .ok (.bipush 7, 2) := by decide +kernel
theorem dX5_tick_109 : decode cX5_tick 109 = .ok (.iaload, 1) := by decide +kernel
theorem dX5_tick_110 : decode cX5_tick 110 = .ok (.iload_n 2, 1) := by decide +kernel
theorem dX5_tick_111 : decode cX5_tick 111 = .ok (.isub, 1) := by decide +kernel
theorem dX5_tick_112 : decode cX5_tick 112 = .ok (.ireturn, 1) := by decide +kernel
set_option maxRecDepth 20000 in
theorem ggX5_length_X5_isServer : GoodIn wsX5_length wsX5_isServer := goodIn_r _ [6, 7, 8, 9, 5, 10, 23, 24, 25, 26, 27, 28] (by decide +kernel) (by decide +kernel)
set_option maxRecDepth 20000 in
theorem gX5_length_X5_isServer : GoodIn wsX5_length (wsV RX5 63 RX5 yX5_isServer wsX5_isServer) := goodIn_app (goodIn_of _ (by decide +kernel)) ggX5_length_X5_isServer
set_option maxRecDepth 20000 in
theorem ggX5_length_X5_lengthOf : GoodIn wsX5_length wsX5_lengthOf := goodIn_r _ [14, 7, 15, 16, 17, 5, 18, 23, 24, 25, 26, 27, 28] (by decide +kernel) (by decide +kernel)
set_option maxRecDepth 20000 in
theorem gX5_length_X5_lengthOf : GoodIn wsX5_length (wsV RX5 69 RX5 yX5_lengthOf wsX5_lengthOf) := goodIn_app (goodIn_of _ (by decide +kernel)) ggX5_length_X5_lengthOf
set_option maxRecDepth 20000 in
theorem ggX5_length_X5_refuse : GoodIn wsX5_length wsX5_refuse := goodIn_r _ [22, 1, 23, 24, 25, 26, 27, 28] (by decide +kernel) (by decide +kernel)
set_option maxRecDepth 20000 in
theorem gX5_length_X5_refuse : GoodIn wsX5_length (wsV RX5 48 RX5 yX5_refuse wsX5_refuse) := goodIn_app (goodIn_of _ (by decide +kernel)) ggX5_length_X5_refuse
theorem dX5_length_0 : decode cX5_length 0 = .ok (.aload_n 0, 1) := by decide +kernel
theorem dX5_length_1 : decode cX5_length 1 = .ok (.iconst 0, 1) := by decide +kernel
theorem dX5_length_2 : decode cX5_length 2 = .ok (.putfield 19, 3) := by decide +kernel
theorem dX5_length_5 : decode cX5_length 5 = .ok (.aload_n 0, 1) := by decide +kernel
theorem dX5_length_6 : decode cX5_length 6 = .ok (.iload_n 1, 1) := by decide +kernel
theorem dX5_length_7 : decode cX5_length 7 = .ok (.invokevirtual 63, 3) := by decide +kernel
theorem dX5_length_10 : decode cX5_length 10 = .ok (.ifCond .eq 11, 3) := by decide +kernel
theorem dX5_length_13 : decode cX5_length 13 = .ok (.aload_n 0, 1) := by decide +kernel
theorem dX5_length_14 : decode cX5_length 14 = .ok (.iload_n 1, 1) := by decide +kernel
theorem dX5_length_15 : decode cX5_length 15 = .ok (.invokevirtual 69, 3) := by decide +kernel
theorem dX5_length_18 : decode cX5_length 18 = .ok (.goto 8, 3) := by decide +kernel
theorem dX5_length_21 : decode cX5_length 21 = .ok (.aload_n 0, 1) := by decide +kernel
theorem dX5_length_22 : decode cX5_length 22 = .ok (.iconst 1, 1) := by decide +kernel
theorem dX5_length_23 : decode cX5_length 23 = .ok (.invokevirtual 48, 3) := by decide +kernel
theorem dX5_length_26 : decode cX5_length 26 = .ok (.ireturn, 1) := by decide +kernel
set_option maxRecDepth 20000 in
theorem ggX5_work_X5_isServer : GoodIn wsX5_work wsX5_isServer := goodIn_r _ [6, 7, 8, 9, 5, 10, 23, 24, 25, 26, 27, 28] (by decide +kernel) (by decide +kernel)
set_option maxRecDepth 20000 in
theorem gX5_work_X5_isServer : GoodIn wsX5_work (wsV RX5 63 RX5 yX5_isServer wsX5_isServer) := goodIn_app (goodIn_of _ (by decide +kernel)) ggX5_work_X5_isServer
set_option maxRecDepth 20000 in
theorem ggX5_work_X5_workOf : GoodIn wsX5_work wsX5_workOf := goodIn_r _ [14, 7, 15, 16, 17, 5, 18, 23, 24, 25, 26, 27, 28] (by decide +kernel) (by decide +kernel)
set_option maxRecDepth 20000 in
theorem gX5_work_X5_workOf : GoodIn wsX5_work (wsV RX5 104 RX5 yX5_workOf wsX5_workOf) := goodIn_app (goodIn_of _ (by decide +kernel)) ggX5_work_X5_workOf
set_option maxRecDepth 20000 in
theorem ggX5_work_X5_refuse : GoodIn wsX5_work wsX5_refuse := goodIn_r _ [22, 1, 23, 24, 25, 26, 27, 28] (by decide +kernel) (by decide +kernel)
set_option maxRecDepth 20000 in
theorem gX5_work_X5_refuse : GoodIn wsX5_work (wsV RX5 48 RX5 yX5_refuse wsX5_refuse) := goodIn_app (goodIn_of _ (by decide +kernel)) ggX5_work_X5_refuse
theorem dX5_work_0 : decode cX5_work 0 = .ok (.aload_n 0, 1) := by decide +kernel
theorem dX5_work_1 : decode cX5_work 1 = .ok (.iconst 0, 1) := by decide +kernel
theorem dX5_work_2 : decode cX5_work 2 = .ok (.putfield 19, 3) := by decide +kernel
theorem dX5_work_5 : decode cX5_work 5 = .ok (.aload_n 0, 1) := by decide +kernel
theorem dX5_work_6 : decode cX5_work 6 = .ok (.iload_n 1, 1) := by decide +kernel
theorem dX5_work_7 : decode cX5_work 7 = .ok (.invokevirtual 63, 3) := by decide +kernel
theorem dX5_work_10 : decode cX5_work 10 = .ok (.ifCond .eq 11, 3) := by decide +kernel
theorem dX5_work_13 : decode cX5_work 13 = .ok (.aload_n 0, 1) := by decide +kernel
theorem dX5_work_14 : decode cX5_work 14 = .ok (.iload_n 1, 1) := by decide +kernel
theorem dX5_work_15 : decode cX5_work 15 = .ok (.invokevirtual 104, 3) := by decide +kernel
theorem dX5_work_18 : decode cX5_work 18 = .ok (.goto 8, 3) := by decide +kernel
theorem dX5_work_21 : decode cX5_work 21 = .ok (.aload_n 0, 1) := by decide +kernel
theorem dX5_work_22 : decode cX5_work 22 = .ok (.iconst 1, 1) := by decide +kernel
theorem dX5_work_23 : decode cX5_work 23 = .ok (.invokevirtual 48, 3) := by decide +kernel
theorem dX5_work_26 : decode cX5_work 26 = .ok (.ireturn, 1) := by decide +kernel
set_option maxRecDepth 20000 in
theorem ggX5_registeredAt_X5_isServer : GoodIn wsX5_registeredAt wsX5_isServer := goodIn_r _ [6, 7, 8, 9, 5, 10, 19, 20, 21, 22, 23, 24] (by decide +kernel) (by decide +kernel)
set_option maxRecDepth 20000 in
theorem gX5_registeredAt_X5_isServer : GoodIn wsX5_registeredAt (wsV RX5 63 RX5 yX5_isServer wsX5_isServer) := goodIn_app (goodIn_of _ (by decide +kernel)) ggX5_registeredAt_X5_isServer
set_option maxRecDepth 20000 in
theorem ggX5_registeredAt_X5_listOf : GoodIn wsX5_registeredAt wsX5_listOf := goodIn_r _ [14, 7, 19, 20, 21, 22, 23, 24] (by decide +kernel) (by decide +kernel)
set_option maxRecDepth 20000 in
theorem gX5_registeredAt_X5_listOf : GoodIn wsX5_registeredAt (wsV RX5 45 RX5 yX5_listOf wsX5_listOf) := goodIn_app (goodIn_of _ (by decide +kernel)) ggX5_registeredAt_X5_listOf
set_option maxRecDepth 20000 in
theorem ggX5_registeredAt_X5_refuse : GoodIn wsX5_registeredAt wsX5_refuse := goodIn_r _ [18, 1, 19, 20, 21, 22, 23, 24] (by decide +kernel) (by decide +kernel)
set_option maxRecDepth 20000 in
theorem gX5_registeredAt_X5_refuse : GoodIn wsX5_registeredAt (wsV RX5 48 RX5 yX5_refuse wsX5_refuse) := goodIn_app (goodIn_of _ (by decide +kernel)) ggX5_registeredAt_X5_refuse
theorem dX5_registeredAt_0 : decode cX5_registeredAt 0 = .ok (.aload_n 0, 1) := by decide +kernel
theorem dX5_registeredAt_1 : decode cX5_registeredAt 1 = .ok (.iconst 0, 1) := by decide +kernel
theorem dX5_registeredAt_2 : decode cX5_registeredAt 2 = .ok (.putfield 19, 3) := by decide +kernel
theorem dX5_registeredAt_5 : decode cX5_registeredAt 5 = .ok (.aload_n 0, 1) := by decide +kernel
theorem dX5_registeredAt_6 : decode cX5_registeredAt 6 = .ok (.iload_n 1, 1) := by decide +kernel
theorem dX5_registeredAt_7 : decode cX5_registeredAt 7 = .ok (.invokevirtual 63, 3) := by decide +kernel
theorem dX5_registeredAt_10 : decode cX5_registeredAt 10 = .ok (.ifCond .eq 11, 3) := by decide +kernel
theorem dX5_registeredAt_13 : decode cX5_registeredAt 13 = .ok (.aload_n 0, 1) := by decide +kernel
theorem dX5_registeredAt_14 : decode cX5_registeredAt 14 = .ok (.iload_n 1, 1) := by decide +kernel
theorem dX5_registeredAt_15 : decode cX5_registeredAt 15 = .ok (.invokevirtual 45, 3) := by decide +kernel
theorem dX5_registeredAt_18 : decode cX5_registeredAt 18 = .ok (.goto 8, 3) := by decide +kernel
theorem dX5_registeredAt_21 : decode cX5_registeredAt 21 = .ok (.aload_n 0, 1) := by decide +kernel
theorem dX5_registeredAt_22 : decode cX5_registeredAt 22 = .ok (.iconst 1, 1) := by decide +kernel
theorem dX5_registeredAt_23 : decode cX5_registeredAt 23 = .ok (.invokevirtual 48, 3) := by decide +kernel
theorem dX5_registeredAt_26 : decode cX5_registeredAt 26 = .ok (.ireturn, 1) := by decide +kernel
set_option maxRecDepth 20000 in
theorem ggX5_idleCount_X5_isDispatcher : GoodIn wsX5_idleCount wsX5_isDispatcher := goodIn_r _ [7, 2, 8, 9, 6, 10, 15, 16, 17, 18, 19, 20] (by decide +kernel) (by decide +kernel)
set_option maxRecDepth 20000 in
theorem gX5_idleCount_X5_isDispatcher : GoodIn wsX5_idleCount (wsV RX5 58 RX5 yX5_isDispatcher wsX5_isDispatcher) := goodIn_app (goodIn_of _ (by decide +kernel)) ggX5_idleCount_X5_isDispatcher
set_option maxRecDepth 20000 in
theorem ggX5_idleCount_X5_refuse : GoodIn wsX5_idleCount wsX5_refuse := goodIn_r _ [14, 1, 15, 16, 17, 18, 19, 20] (by decide +kernel) (by decide +kernel)
set_option maxRecDepth 20000 in
theorem gX5_idleCount_X5_refuse : GoodIn wsX5_idleCount (wsV RX5 48 RX5 yX5_refuse wsX5_refuse) := goodIn_app (goodIn_of _ (by decide +kernel)) ggX5_idleCount_X5_refuse
theorem dX5_idleCount_0 : decode cX5_idleCount 0 = .ok (.aload_n 0, 1) := by decide +kernel
theorem dX5_idleCount_1 : decode cX5_idleCount 1 = .ok (.iconst 0, 1) := by decide +kernel
theorem dX5_idleCount_2 : decode cX5_idleCount 2 = .ok (.putfield 19, 3) := by decide +kernel
theorem dX5_idleCount_5 : decode cX5_idleCount 5 = .ok (.aload_n 0, 1) := by decide +kernel
theorem dX5_idleCount_6 : decode cX5_idleCount 6 = .ok (.iload_n 1, 1) := by decide +kernel
theorem dX5_idleCount_7 : decode cX5_idleCount 7 = .ok (.invokevirtual 58, 3) := by decide +kernel
theorem dX5_idleCount_10 : decode cX5_idleCount 10 = .ok (.ifCond .eq 15, 3) := by decide +kernel
theorem dX5_idleCount_13 : decode cX5_idleCount 13 = .ok (.aload_n 0, 1) := by decide +kernel
theorem dX5_idleCount_14 : decode cX5_idleCount 14 = .ok (.getfield 7, 3) := by decide +kernel
theorem dX5_idleCount_17 : decode cX5_idleCount 17 = .ok (.bipush 57, 2) := by decide +kernel
theorem dX5_idleCount_19 : decode cX5_idleCount 19 = .ok (.iload_n 1, 1) := by decide +kernel
theorem dX5_idleCount_20 : decode cX5_idleCount 20 = .ok (.iadd, 1) := by decide +kernel
theorem dX5_idleCount_21 : decode cX5_idleCount 21 = .ok (.iaload, 1) := by decide +kernel
theorem dX5_idleCount_22 : decode cX5_idleCount 22 = .ok (.goto 8, 3) := by decide +kernel
theorem dX5_idleCount_25 : decode cX5_idleCount 25 = .ok (.aload_n 0, 1) := by decide +kernel
theorem dX5_idleCount_26 : decode cX5_idleCount 26 = .ok (.iconst 1, 1) := by decide +kernel
theorem dX5_idleCount_27 : decode cX5_idleCount 27 = .ok (.invokevirtual 48, 3) := by decide +kernel
theorem dX5_idleCount_30 : decode cX5_idleCount 30 = .ok (.ireturn, 1) := by decide +kernel
set_option maxRecDepth 20000 in
theorem ggX5_idleAt_X5_isDispatcher : GoodIn wsX5_idleAt wsX5_isDispatcher := goodIn_r _ [7, 2, 8, 9, 6, 10, 15, 16, 17, 18, 19, 20] (by decide +kernel) (by decide +kernel)
set_option maxRecDepth 20000 in
theorem gX5_idleAt_X5_isDispatcher : GoodIn wsX5_idleAt (wsV RX5 58 RX5 yX5_isDispatcher wsX5_isDispatcher) := goodIn_app (goodIn_of _ (by decide +kernel)) ggX5_idleAt_X5_isDispatcher
set_option maxRecDepth 20000 in
theorem ggX5_idleAt_X5_refuse : GoodIn wsX5_idleAt wsX5_refuse := goodIn_r _ [14, 1, 15, 16, 17, 18, 19, 20] (by decide +kernel) (by decide +kernel)
set_option maxRecDepth 20000 in
theorem gX5_idleAt_X5_refuse : GoodIn wsX5_idleAt (wsV RX5 48 RX5 yX5_refuse wsX5_refuse) := goodIn_app (goodIn_of _ (by decide +kernel)) ggX5_idleAt_X5_refuse
set_option maxRecDepth 20000 in
theorem ggX5_idleAt_X5_in : GoodIn wsX5_idleAt wsX5_in := goodIn_r _ [10] (by decide +kernel) (by decide +kernel)
set_option maxRecDepth 20000 in
theorem gX5_idleAt_X5_in : GoodIn wsX5_idleAt (va_wsS RX5 23 yX5_in wsX5_in) := goodIn_app (goodIn_of _ (by decide +kernel)) ggX5_idleAt_X5_in
theorem dX5_idleAt_0 : decode cX5_idleAt 0 = .ok (.aload_n 0, 1) := by decide +kernel
theorem dX5_idleAt_1 : decode cX5_idleAt 1 = .ok (.iconst 0, 1) := by decide +kernel
theorem dX5_idleAt_2 : decode cX5_idleAt 2 = .ok (.putfield 19, 3) := by decide +kernel
theorem dX5_idleAt_5 : decode cX5_idleAt 5 = .ok (.aload_n 0, 1) := by decide +kernel
theorem dX5_idleAt_6 : decode cX5_idleAt 6 = .ok (.iload_n 1, 1) := by decide +kernel
theorem dX5_idleAt_7 : decode cX5_idleAt 7 = .ok (.invokevirtual 58, 3) := by decide +kernel
theorem dX5_idleAt_10 : decode cX5_idleAt 10 = .ok (.ifCond .ne 9, 3) := by decide +kernel
theorem dX5_idleAt_13 : decode cX5_idleAt 13 = .ok (.aload_n 0, 1) := by decide +kernel
theorem dX5_idleAt_14 : decode cX5_idleAt 14 = .ok (.iconst 1, 1) := by decide +kernel
theorem dX5_idleAt_15 : decode cX5_idleAt 15 = .ok (.invokevirtual 48, 3) := by decide +kernel
theorem dX5_idleAt_18 : decode cX5_idleAt 18 = .ok (.ireturn, 1) := by decide +kernel
theorem dX5_idleAt_19 : decode cX5_idleAt 19 = .ok (.iload_n 2, 1) := by decide +kernel
theorem dX5_idleAt_20 : decode cX5_idleAt 20 = .ok (.iconst 0, 1) := by decide +kernel
theorem dX5_idleAt_21 : decode cX5_idleAt 21 = .ok (.aload_n 0, 1) := by decide +kernel
theorem dX5_idleAt_22 : decode cX5_idleAt 22 = .ok (.getfield 7, 3) := by decide +kernel
theorem dX5_idleAt_25 : decode cX5_idleAt 25 = .ok (.bipush 57, 2) := by decide +kernel
theorem dX5_idleAt_27 : decode cX5_idleAt 27 = .ok (.iload_n 1, 1) := by decide +kernel
theorem dX5_idleAt_28 : decode cX5_idleAt 28 = .ok (.iadd, 1) := by decide +kernel
theorem dX5_idleAt_29 : decode cX5_idleAt 29 = .ok (.iaload, 1) := by decide +kernel
theorem dX5_idleAt_30 : decode cX5_idleAt 30 = .ok (.iconst 1, 1) := by decide +kernel
theorem dX5_idleAt_31 : decode cX5_idleAt 31 = .ok (.isub, 1) := by decide +kernel
theorem dX5_idleAt_32 : decode cX5_idleAt 32 = .ok (.invokestatic 23, 3) := by decide +kernel
theorem dX5_idleAt_35 : decode cX5_idleAt 35 = .ok (.ifCond .eq 20, 3) := by decide +kernel
theorem dX5_idleAt_38 : decode cX5_idleAt 38 = .ok (.aload_n 0, 1) := by decide +kernel
theorem dX5_idleAt_39 : decode cX5_idleAt 39 = .ok (.getfield 7, 3) := by decide +kernel
theorem dX5_idleAt_42 : decode cX5_idleAt 42 = .ok (.bipush 61, 2) := by decide +kernel
theorem dX5_idleAt_44 : decode cX5_idleAt 44 = .ok (.bipush 8, 2) := by decide +kernel
theorem dX5_idleAt_46 : decode cX5_idleAt 46 = .ok (.iload_n 1, 1) := by decide +kernel
theorem dX5_idleAt_47 : decode cX5_idleAt 47 = .ok (.imul, 1) := by decide +kernel
theorem dX5_idleAt_48 : decode cX5_idleAt 48 = .ok (.iadd, 1) := by decide +kernel
theorem dX5_idleAt_49 : decode cX5_idleAt 49 = .ok (.iload_n 2, 1) := by decide +kernel
theorem dX5_idleAt_50 : decode cX5_idleAt 50 = .ok (.iadd, 1) := by decide +kernel
theorem dX5_idleAt_51 : decode cX5_idleAt 51 = .ok (.iaload, 1) := by decide +kernel
theorem dX5_idleAt_52 : decode cX5_idleAt 52 = .ok (.goto 8, 3) := by decide +kernel
theorem dX5_idleAt_55 : decode cX5_idleAt 55 = .ok (.aload_n 0, 1) := by decide +kernel
theorem dX5_idleAt_56 : decode cX5_idleAt 56 = .ok (.iconst 2, 1) := by decide +kernel
theorem dX5_idleAt_57 : decode cX5_idleAt 57 = .ok (.invokevirtual 48, 3) := by decide +kernel
theorem dX5_idleAt_60 : decode cX5_idleAt 60 = .ok (.ireturn, 1) := by decide +kernel
set_option maxRecDepth 20000 in
theorem ggX5_knownLength_X5_isDispatcher : GoodIn wsX5_knownLength wsX5_isDispatcher := goodIn_r _ [7, 2, 8, 9, 6, 10, 19, 20, 21, 22, 23, 24] (by decide +kernel) (by decide +kernel)
set_option maxRecDepth 20000 in
theorem gX5_knownLength_X5_isDispatcher : GoodIn wsX5_knownLength (wsV RX5 58 RX5 yX5_isDispatcher wsX5_isDispatcher) := goodIn_app (goodIn_of _ (by decide +kernel)) ggX5_knownLength_X5_isDispatcher
set_option maxRecDepth 20000 in
theorem ggX5_knownLength_X5_isServer : GoodIn wsX5_knownLength wsX5_isServer := goodIn_r _ [14, 2, 8, 9, 6, 10, 19, 20, 21, 22, 23, 24] (by decide +kernel) (by decide +kernel)
set_option maxRecDepth 20000 in
theorem gX5_knownLength_X5_isServer : GoodIn wsX5_knownLength (wsV RX5 63 RX5 yX5_isServer wsX5_isServer) := goodIn_app (goodIn_of _ (by decide +kernel)) ggX5_knownLength_X5_isServer
set_option maxRecDepth 20000 in
theorem ggX5_knownLength_X5_refuse : GoodIn wsX5_knownLength wsX5_refuse := goodIn_r _ [18, 1, 19, 20, 21, 22, 23, 24] (by decide +kernel) (by decide +kernel)
set_option maxRecDepth 20000 in
theorem gX5_knownLength_X5_refuse : GoodIn wsX5_knownLength (wsV RX5 48 RX5 yX5_refuse wsX5_refuse) := goodIn_app (goodIn_of _ (by decide +kernel)) ggX5_knownLength_X5_refuse
theorem dX5_knownLength_0 : decode cX5_knownLength 0 = .ok (.aload_n 0, 1) := by decide +kernel
theorem dX5_knownLength_1 : decode cX5_knownLength 1 = .ok (.iconst 0, 1) := by decide +kernel
theorem dX5_knownLength_2 : decode cX5_knownLength 2 = .ok (.putfield 19, 3) := by decide +kernel
theorem dX5_knownLength_5 : decode cX5_knownLength 5 = .ok (.aload_n 0, 1) := by decide +kernel
theorem dX5_knownLength_6 : decode cX5_knownLength 6 = .ok (.iload_n 1, 1) := by decide +kernel
theorem dX5_knownLength_7 : decode cX5_knownLength 7 = .ok (.invokevirtual 58, 3) := by decide +kernel
theorem dX5_knownLength_10 : decode cX5_knownLength 10 = .ok (.ifCond .eq 28, 3) := by decide +kernel
theorem dX5_knownLength_13 : decode cX5_knownLength 13 = .ok (.aload_n 0, 1) := by decide +kernel
theorem dX5_knownLength_14 : decode cX5_knownLength 14 = .ok (.iload_n 2, 1) := by decide +kernel
theorem dX5_knownLength_15 : decode cX5_knownLength 15 = .ok (.invokevirtual 63, 3) := by decide +kernel
theorem dX5_knownLength_18 : decode cX5_knownLength 18 = .ok (.ifCond .eq 20, 3) := by decide +kernel
theorem dX5_knownLength_21 : decode cX5_knownLength 21 = .ok (.aload_n 0, 1) := by decide +kernel
theorem dX5_knownLength_22 : decode cX5_knownLength 22 = .ok (.getfield 7, 3) := by decide +kernel
theorem dX5_knownLength_25 : decode cX5_knownLength 25 = .ok (.bipush 25, 2) := by decide +kernel
theorem dX5_knownLength_27 : decode cX5_knownLength 27 = .ok (.bipush 8, 2) := by decide +kernel
theorem dX5_knownLength_29 : decode cX5_knownLength 29 = .ok (.iload_n 1, 1) := by decide +kernel
theorem dX5_knownLength_30 : decode cX5_knownLength 30 = .ok (.imul, 1) := by decide +kernel
theorem dX5_knownLength_31 : decode cX5_knownLength 31 = .ok (.iadd, 1) := by decide +kernel
theorem dX5_knownLength_32 : decode cX5_knownLength 32 = .ok (.iload_n 2, 1) := by decide +kernel
theorem dX5_knownLength_33 : decode cX5_knownLength 33 = .ok (.iadd, 1) := by decide +kernel
theorem dX5_knownLength_34 : decode cX5_knownLength 34 = .ok (.iaload, 1) := by decide +kernel
theorem dX5_knownLength_35 : decode cX5_knownLength 35 = .ok (.goto 8, 3) := by decide +kernel
theorem dX5_knownLength_38 : decode cX5_knownLength 38 = .ok (.aload_n 0, 1) := by decide +kernel
theorem dX5_knownLength_39 : decode cX5_knownLength 39 = .ok (.iconst 1, 1) := by decide +kernel
theorem dX5_knownLength_40 : decode cX5_knownLength 40 = .ok (.invokevirtual 48, 3) := by decide +kernel
theorem dX5_knownLength_43 : decode cX5_knownLength 43 = .ok (.ireturn, 1) := by decide +kernel
set_option maxRecDepth 20000 in
theorem ggX5_sumOfLengths_X5_lengthOf : GoodIn wsX5_sumOfLengths wsX5_lengthOf := goodIn_r _ [6, 7, 8, 9, 10, 5, 11, 12, 13, 14, 15, 16, 17] (by decide +kernel) (by decide +kernel)
set_option maxRecDepth 20000 in
theorem gX5_sumOfLengths_X5_lengthOf : GoodIn wsX5_sumOfLengths (wsV RX5 69 RX5 yX5_lengthOf wsX5_lengthOf) := goodIn_app (goodIn_of _ (by decide +kernel)) ggX5_sumOfLengths_X5_lengthOf
theorem dX5_sumOfLengths_0 : decode cX5_sumOfLengths 0 = .ok (.iconst 0, 1) := by decide +kernel
theorem dX5_sumOfLengths_1 : decode cX5_sumOfLengths 1 = .ok (.istore_n 2, 1) := by decide +kernel
theorem dX5_sumOfLengths_2 : decode cX5_sumOfLengths 2 = .ok (.iconst 0, 1) := by decide +kernel
theorem dX5_sumOfLengths_3 : decode cX5_sumOfLengths 3 = .ok (.istore_n 3, 1) := by decide +kernel
theorem dX5_sumOfLengths_4 : decode cX5_sumOfLengths 4 = .ok (.iload_n 3, 1) := by decide +kernel
theorem dX5_sumOfLengths_5 : decode cX5_sumOfLengths 5 = .ok (.iload_n 1, 1) := by decide +kernel
theorem dX5_sumOfLengths_6 : decode cX5_sumOfLengths 6 = .ok (.if_icmp .ge 22, 3) := by decide +kernel
theorem dX5_sumOfLengths_9 : decode cX5_sumOfLengths 9 = .ok (.iload_n 2, 1) := by decide +kernel
theorem dX5_sumOfLengths_10 : decode cX5_sumOfLengths 10 = .ok (.aload_n 0, 1) := by decide +kernel
theorem dX5_sumOfLengths_11 : decode cX5_sumOfLengths 11 = .ok (.aload_n 0, 1) := by decide +kernel
theorem dX5_sumOfLengths_12 : decode cX5_sumOfLengths 12 = .ok (.getfield 16, 3) := by decide +kernel
theorem dX5_sumOfLengths_15 : decode cX5_sumOfLengths 15 = .ok (.iload_n 3, 1) := by decide +kernel
theorem dX5_sumOfLengths_16 : decode cX5_sumOfLengths 16 = .ok (.iaload, 1) := by decide +kernel
theorem dX5_sumOfLengths_17 : decode cX5_sumOfLengths 17 = .ok (.invokevirtual 69, 3) := by decide +kernel
theorem dX5_sumOfLengths_20 : decode cX5_sumOfLengths 20 = .ok (.iadd, 1) := by decide +kernel
theorem dX5_sumOfLengths_21 : decode cX5_sumOfLengths 21 = .ok (.istore_n 2, 1) := by decide +kernel
theorem dX5_sumOfLengths_22 : decode cX5_sumOfLengths 22 = .ok (.iinc 3 1, 3) := by decide +kernel
theorem dX5_sumOfLengths_25 : decode cX5_sumOfLengths 25 = .ok (.goto (-21), 3) := by decide +kernel
theorem dX5_sumOfLengths_28 : decode cX5_sumOfLengths 28 = .ok (.iload_n 2, 1) := by decide +kernel
theorem dX5_sumOfLengths_29 : decode cX5_sumOfLengths 29 = .ok (.ireturn, 1) := by decide +kernel
set_option maxRecDepth 20000 in
theorem ggX5_sumOfLesser_X5_lengthOf : GoodIn wsX5_sumOfLesser wsX5_lengthOf := goodIn_r _ [6, 7, 8, 9, 10, 5, 11, 12, 13, 14, 15, 16, 17] (by decide +kernel) (by decide +kernel)
set_option maxRecDepth 20000 in
theorem gX5_sumOfLesser_X5_lengthOf : GoodIn wsX5_sumOfLesser (wsV RX5 69 RX5 yX5_lengthOf wsX5_lengthOf) := goodIn_app (goodIn_of _ (by decide +kernel)) ggX5_sumOfLesser_X5_lengthOf
theorem dX5_sumOfLesser_0 : decode cX5_sumOfLesser 0 = .ok (.iconst 0, 1) := by decide +kernel
theorem dX5_sumOfLesser_1 : decode cX5_sumOfLesser 1 = .ok (.istore_n 2, 1) := by decide +kernel
theorem dX5_sumOfLesser_2 : decode cX5_sumOfLesser 2 = .ok (.iconst 0, 1) := by decide +kernel
theorem dX5_sumOfLesser_3 : decode cX5_sumOfLesser 3 = .ok (.istore_n 3, 1) := by decide +kernel
theorem dX5_sumOfLesser_4 : decode cX5_sumOfLesser 4 = .ok (.iload_n 3, 1) := by decide +kernel
theorem dX5_sumOfLesser_5 : decode cX5_sumOfLesser 5 = .ok (.iload_n 1, 1) := by decide +kernel
theorem dX5_sumOfLesser_6 : decode cX5_sumOfLesser 6 = .ok (.if_icmp .ge 66, 3) := by decide +kernel
theorem dX5_sumOfLesser_9 : decode cX5_sumOfLesser 9 = .ok (.iconst 0, 1) := by decide +kernel
theorem dX5_sumOfLesser_10 : decode cX5_sumOfLesser 10 = .ok (.istore 4, 2) := by decide +kernel
theorem dX5_sumOfLesser_12 : decode cX5_sumOfLesser 12 = .ok (.iload 4, 2) := by decide +kernel
theorem dX5_sumOfLesser_14 : decode cX5_sumOfLesser 14 = .ok (.iload_n 1, 1) := by decide +kernel
theorem dX5_sumOfLesser_15 : decode cX5_sumOfLesser 15 = .ok (.if_icmp .ge 51, 3) := by decide +kernel
theorem dX5_sumOfLesser_18 : decode cX5_sumOfLesser 18 = .ok (.aload_n 0, 1) := by decide +kernel
theorem dX5_sumOfLesser_19 : decode cX5_sumOfLesser 19 = .ok (.aload_n 0, 1) := by decide +kernel
theorem dX5_sumOfLesser_20 : decode cX5_sumOfLesser 20 = .ok (.getfield 16, 3) := by decide +kernel
theorem dX5_sumOfLesser_23 : decode cX5_sumOfLesser 23 = .ok (.iload_n 3, 1) := by decide +kernel
theorem dX5_sumOfLesser_24 : decode cX5_sumOfLesser 24 = .ok (.iaload, 1) := by decide +kernel
theorem dX5_sumOfLesser_25 : decode cX5_sumOfLesser 25 = .ok (.invokevirtual 69, 3) := by decide +kernel
theorem dX5_sumOfLesser_28 : decode cX5_sumOfLesser 28 = .ok (.istore 5, 2) := by decide +kernel
theorem dX5_sumOfLesser_30 : decode cX5_sumOfLesser 30 = .ok (.aload_n 0, 1) := by decide +kernel
theorem dX5_sumOfLesser_31 : decode cX5_sumOfLesser 31 = .ok (.aload_n 0, 1) := by decide +kernel
theorem dX5_sumOfLesser_32 : decode cX5_sumOfLesser 32 = .ok (.getfield 16, 3) := by decide +kernel
theorem dX5_sumOfLesser_35 : decode cX5_sumOfLesser 35 = .ok (.iload 4, 2) := by decide +kernel
theorem dX5_sumOfLesser_37 : decode cX5_sumOfLesser 37 = .ok (.iaload, 1) := by decide +kernel
theorem dX5_sumOfLesser_38 : decode cX5_sumOfLesser 38 = .ok (.invokevirtual 69, 3) := by decide +kernel
theorem dX5_sumOfLesser_41 : decode cX5_sumOfLesser 41 = .ok (.istore 6, 2) := by decide +kernel
theorem dX5_sumOfLesser_43 : decode cX5_sumOfLesser 43 = .ok (.iload_n 2, 1) := by decide +kernel
theorem dX5_sumOfLesser_44 : decode cX5_sumOfLesser 44 = .ok (.iload 6, 2) := by decide +kernel
theorem dX5_sumOfLesser_46 : decode cX5_sumOfLesser 46 = .ok (.iload 5, 2) := by decide +kernel
theorem dX5_sumOfLesser_48 : decode cX5_sumOfLesser 48 = .ok (.if_icmp .ge 8, 3) := by decide +kernel
theorem dX5_sumOfLesser_51 : decode cX5_sumOfLesser 51 = .ok (.iload 6, 2) := by decide +kernel
theorem dX5_sumOfLesser_53 : decode cX5_sumOfLesser 53 = .ok (.goto 5, 3) := by decide +kernel
theorem dX5_sumOfLesser_56 : decode cX5_sumOfLesser 56 = .ok (.iload 5, 2) := by decide +kernel
theorem dX5_sumOfLesser_58 : decode cX5_sumOfLesser 58 = .ok (.iadd, 1) := by decide +kernel
theorem dX5_sumOfLesser_59 : decode cX5_sumOfLesser 59 = .ok (.istore_n 2, 1) := by decide +kernel
theorem dX5_sumOfLesser_60 : decode cX5_sumOfLesser 60 = .ok (.iinc 4 1, 3) := by decide +kernel
theorem dX5_sumOfLesser_63 : decode cX5_sumOfLesser 63 = .ok (.goto (-51), 3) := by decide +kernel
theorem dX5_sumOfLesser_66 : decode cX5_sumOfLesser 66 = .ok (.iinc 3 1, 3) := by decide +kernel
theorem dX5_sumOfLesser_69 : decode cX5_sumOfLesser 69 = .ok (.goto (-65), 3) := by decide +kernel
theorem dX5_sumOfLesser_72 : decode cX5_sumOfLesser 72 = .ok (.iload_n 2, 1) := by decide +kernel
theorem dX5_sumOfLesser_73 : decode cX5_sumOfLesser 73 = .ok (.ireturn, 1) := by decide +kernel
theorem dX5_common_0 : decode cX5_common 0 = .ok (.iload_n 0, 1) := by decide +kernel
theorem dX5_common_1 : decode cX5_common 1 = .ok (.istore_n 2, 1) := by decide +kernel
theorem dX5_common_2 : decode cX5_common 2 = .ok (.iload_n 1, 1) := by decide +kernel
theorem dX5_common_3 : decode cX5_common 3 = .ok (.istore_n 3, 1) := by decide +kernel
theorem dX5_common_4 : decode cX5_common 4 = .ok (.iload_n 3, 1) := by decide +kernel
theorem dX5_common_5 : decode cX5_common 5 = .ok (.ifCond .eq 16, 3) := by decide +kernel
theorem dX5_common_8 : decode cX5_common 8 = .ok (.iload_n 2, 1) := by decide +kernel
theorem dX5_common_9 : decode cX5_common 9 = .ok (.iload_n 3, 1) := by decide +kernel
theorem dX5_common_10 : decode cX5_common 10 = .ok (.irem, 1) := by decide +kernel
theorem dX5_common_11 : decode cX5_common 11 = .ok (.istore 4, 2) := by decide +kernel
theorem dX5_common_13 : decode cX5_common 13 = .ok (.iload_n 3, 1) := by decide +kernel
theorem dX5_common_14 : decode cX5_common 14 = .ok (.istore_n 2, 1) := by decide +kernel
theorem dX5_common_15 : decode cX5_common 15 = .ok (.iload 4, 2) := by decide +kernel
theorem dX5_common_17 : decode cX5_common 17 = .ok (.istore_n 3, 1) := by decide +kernel
theorem dX5_common_18 : decode cX5_common 18 = .ok (.goto (-14), 3) := by decide +kernel
theorem dX5_common_21 : decode cX5_common 21 = .ok (.iload_n 2, 1) := by decide +kernel
theorem dX5_common_22 : decode cX5_common 22 = .ok (.ireturn, 1) := by decide +kernel
set_option maxRecDepth 20000 in
theorem ggX5_expected_X5_sumOfLengths : GoodIn wsX5_expected wsX5_sumOfLengths := goodIn_r _ [6, 7, 8, 9, 10, 5, 11, 1, 12, 13, 14, 15, 31, 32, 33, 34, 35, 36] (by decide +kernel) (by decide +kernel)
set_option maxRecDepth 20000 in
theorem gX5_expected_X5_sumOfLengths : GoodIn wsX5_expected (wsV RX5 107 RX5 yX5_sumOfLengths wsX5_sumOfLengths) := goodIn_app (goodIn_of _ (by decide +kernel)) ggX5_expected_X5_sumOfLengths
set_option maxRecDepth 20000 in
theorem ggX5_expected_X5_sumOfLesser : GoodIn wsX5_expected wsX5_sumOfLesser := goodIn_r _ [19, 7, 8, 9, 10, 5, 11, 1, 12, 13, 14, 15, 31, 32, 33, 34, 35, 36] (by decide +kernel) (by decide +kernel)
set_option maxRecDepth 20000 in
theorem gX5_expected_X5_sumOfLesser : GoodIn wsX5_expected (wsV RX5 110 RX5 yX5_sumOfLesser wsX5_sumOfLesser) := goodIn_app (goodIn_of _ (by decide +kernel)) ggX5_expected_X5_sumOfLesser
set_option maxRecDepth 20000 in
theorem ggX5_expected_X5_lengthOf : GoodIn wsX5_expected wsX5_lengthOf := goodIn_r _ [11, 1, 12, 13, 14, 5, 15, 31, 32, 33, 34, 35, 36] (by decide +kernel) (by decide +kernel)
set_option maxRecDepth 20000 in
theorem gX5_expected_X5_lengthOf : GoodIn wsX5_expected (wsV RX5 69 RX5 yX5_lengthOf wsX5_lengthOf) := goodIn_app (goodIn_of _ (by decide +kernel)) ggX5_expected_X5_lengthOf
set_option maxRecDepth 20000 in
theorem ggX5_expected_X5_nextInTurn : GoodIn wsX5_expected wsX5_nextInTurn := goodIn_r _ [23, 7, 1, 31, 32, 33, 34, 35, 36] (by decide +kernel) (by decide +kernel)
set_option maxRecDepth 20000 in
theorem gX5_expected_X5_nextInTurn : GoodIn wsX5_expected (wsV RX5 75 RX5 yX5_nextInTurn wsX5_nextInTurn) := goodIn_app (goodIn_of _ (by decide +kernel)) ggX5_expected_X5_nextInTurn
set_option maxRecDepth 20000 in
theorem ggX5_expected_X5_leastKnown : GoodIn wsX5_expected wsX5_leastKnown := goodIn_r _ [27, 7, 1, 31, 32, 33, 34, 35, 36] (by decide +kernel) (by decide +kernel)
set_option maxRecDepth 20000 in
theorem gX5_expected_X5_leastKnown : GoodIn wsX5_expected (wsV RX5 82 RX5 yX5_leastKnown wsX5_leastKnown) := goodIn_app (goodIn_of _ (by decide +kernel)) ggX5_expected_X5_leastKnown
set_option maxRecDepth 20000 in
theorem ggX5_expected_X5_common : GoodIn wsX5_expected wsX5_common := goodIn_r _ [30] (by decide +kernel) (by decide +kernel)
set_option maxRecDepth 20000 in
theorem gX5_expected_X5_common : GoodIn wsX5_expected (va_wsS RX5 113 yX5_common wsX5_common) := goodIn_app (goodIn_of _ (by decide +kernel)) ggX5_expected_X5_common
theorem dX5_expected_0 : decode cX5_expected 0 = .ok (.aload_n 0, 1) := by decide +kernel
theorem dX5_expected_1 : decode cX5_expected 1 = .ok (.getfield 7, 3) := by decide +kernel
theorem dX5_expected_4 : decode cX5_expected 4 = .ok (.bipush 17, 2) := by decide +kernel
theorem dX5_expected_6 : decode cX5_expected 6 = .ok (.iload_n 1, 1) := by decide +kernel
theorem dX5_expected_7 : decode cX5_expected 7 = .ok (.iadd, 1) := by decide +kernel
theorem dX5_expected_8 : decode cX5_expected 8 = .ok (.iaload, 1) := by decide +kernel
theorem dX5_expected_9 : decode cX5_expected 9 = .ok (.istore 4, 2) := by decide +kernel
theorem dX5_expected_11 : decode cX5_expected 11 = .ok (.iconst 0, 1) := by decide +kernel
theorem dX5_expected_12 : decode cX5_expected 12 = .ok (.istore 5, 2) := by decide +kernel
theorem dX5_expected_14 : decode cX5_expected 14 = .ok (.iconst 1, 1) := by decide +kernel
theorem dX5_expected_15 : decode cX5_expected 15 = .ok (.istore 6, 2) := by decide +kernel
theorem dX5_expected_17 : decode cX5_expected 17 = .ok (.iload 4, 2) := by decide +kernel
theorem dX5_expected_19 : decode cX5_expected 19 = .ok (.ifCond .eq 21, 3) := by decide +kernel
theorem dX5_expected_22 : decode cX5_expected 22 = .ok (.iload 4, 2) := by decide +kernel
theorem dX5_expected_24 : decode cX5_expected 24 = .ok (.iconst 3, 1) := by decide +kernel
theorem dX5_expected_25 : decode cX5_expected 25 = .ok (.if_icmp .ne 28, 3) := by decide +kernel
theorem dX5_expected_28 : decode cX5_expected 28 = .ok (.aload_n 0, 1) := by decide +kernel
theorem dX5_expected_29 : decode cX5_expected 29 = .ok (.getfield 7, 3) := by decide +kernel
theorem dX5_expected_32 : decode cX5_expected 32 = .ok (.bipush 57, 2) := by decide +kernel
theorem dX5_expected_34 : decode cX5_expected 34 = .ok (.iload_n 1, 1) := by decide +kernel
theorem dX5_expected_35 : decode cX5_expected 35 = .ok (.iadd, 1) := by decide +kernel
theorem dX5_expected_36 : decode cX5_expected 36 = .ok (.iaload, 1) := by decide +kernel
theorem dX5_expected_37 : decode cX5_expected 37 = .ok (.ifCond .ne 16, 3) := by decide +kernel
theorem dX5_expected_40 : decode cX5_expected 40 = .ok (.aload_n 0, 1) := by decide +kernel
theorem dX5_expected_41 : decode cX5_expected 41 = .ok (.iload_n 2, 1) := by decide +kernel
theorem dX5_expected_42 : decode cX5_expected 42 = .ok (.invokevirtual 107, 3) := by decide +kernel
theorem dX5_expected_45 : decode cX5_expected 45 = .ok (.istore 5, 2) := by decide +kernel
theorem dX5_expected_47 : decode cX5_expected 47 = .ok (.iload_n 2, 1) := by decide +kernel
theorem dX5_expected_48 : decode cX5_expected 48 = .ok (.istore 6, 2) := by decide +kernel
theorem dX5_expected_50 : decode cX5_expected 50 = .ok (.goto 78, 3) := by decide +kernel
theorem dX5_expected_53 : decode cX5_expected 53 = .ok (.iload 4, 2) := by decide +kernel
theorem dX5_expected_55 : decode cX5_expected 55 = .ok (.iconst 2, 1) := by decide +kernel
theorem dX5_expected_56 : decode cX5_expected 56 = .ok (.if_icmp .ne 18, 3) := by decide +kernel
theorem dX5_expected_59 : decode cX5_expected 59 = .ok (.aload_n 0, 1) := by decide +kernel
theorem dX5_expected_60 : decode cX5_expected 60 = .ok (.iload_n 2, 1) := by decide +kernel
theorem dX5_expected_61 : decode cX5_expected 61 = .ok (.invokevirtual 110, 3) := by decide +kernel
theorem dX5_expected_64 : decode cX5_expected 64 = .ok (.istore 5, 2) := by decide +kernel
theorem dX5_expected_66 : decode cX5_expected 66 = .ok (.iload_n 2, 1) := by decide +kernel
theorem dX5_expected_67 : decode cX5_expected 67 = .ok (.iload_n 2, 1) := by decide +kernel
theorem dX5_expected_68 : decode cX5_expected 68 = .ok (.imul, 1) := by decide +kernel
theorem dX5_expected_69 : decode cX5_expected 69 = .ok (.istore 6, 2) := by decide +kernel
theorem dX5_expected_71 : decode cX5_expected 71 = .ok (.goto 57, 3) := by decide +kernel
theorem dX5_expected_74 : decode cX5_expected 74 = .ok (.iload 4, 2) := by decide +kernel
theorem dX5_expected_76 : decode cX5_expected 76 = .ok (.iconst 3, 1) := by decide +kernel
theorem dX5_expected_77 : decode cX5_expected 77 = .ok (.if_icmp .ne 24, 3) := by decide +kernel
theorem dX5_expected_80 : decode cX5_expected 80 = .ok (.aload_n 0, 1) := by decide +kernel
theorem dX5_expected_81 : decode cX5_expected 81 = .ok (.aload_n 0, 1) := by decide +kernel
theorem dX5_expected_82 : decode cX5_expected 82 = .ok (.getfield 7, 3) := by decide +kernel
theorem dX5_expected_85 : decode cX5_expected 85 = .ok (.bipush 61, 2) := by decide +kernel
theorem dX5_expected_87 : decode cX5_expected 87 = .ok (.bipush 8, 2) := by decide +kernel
theorem dX5_expected_89 : decode cX5_expected 89 = .ok (.iload_n 1, 1) := by decide +kernel
theorem dX5_expected_90 : decode cX5_expected 90 = .ok (.imul, 1) := by decide +kernel
theorem dX5_expected_91 : decode cX5_expected 91 = .ok (.iadd, 1) := by decide +kernel
theorem dX5_expected_92 : decode cX5_expected 92 = .ok (.iaload, 1) := by decide +kernel
theorem dX5_expected_93 : decode cX5_expected 93 = .ok (.invokevirtual 69, 3) := by decide +kernel
theorem dX5_expected_96 : decode cX5_expected 96 = .ok (.istore 5, 2) := by decide +kernel
theorem dX5_expected_98 : decode cX5_expected 98 = .ok (.goto 30, 3) := by decide +kernel
theorem dX5_expected_101 : decode cX5_expected 101 = .ok (.aload_n 0, 1) := by decide +kernel
theorem dX5_expected_102 : decode cX5_expected 102 = .ok (.iload 4, 2) := by decide +kernel
theorem dX5_expected_104 : decode cX5_expected 104 = .ok (.iconst 1, 1) := by decide +kernel
theorem dX5_expected_105 : decode cX5_expected 105 = .ok (.if_icmp .ne 12, 3) := by decide +kernel
theorem dX5_expected_108 : decode cX5_expected 108 = .ok (.aload_n 0, 1) := by decide +kernel
theorem dX5_expected_109 : decode cX5_expected 109 = .ok (.iload_n 1, 1) := by decide +kernel
theorem dX5_expected_110 : decode cX5_expected 110 = .ok (.iload_n 2, 1) := by decide +kernel
theorem dX5_expected_111 : decode cX5_expected 111 = .ok (.invokevirtual 75, 3) := by decide +kernel
theorem dX5_expected_114 : decode cX5_expected 114 = .ok (.goto 9, 3) := by decide +kernel
theorem dX5_expected_117 : decode cX5_expected 117 = .ok (.aload_n 0, 1) := by decide +kernel
theorem dX5_expected_118 : decode cX5_expected 118 = .ok (.iload_n 1, 1) := by decide +kernel
theorem dX5_expected_119 : decode cX5_expected 119 = .ok (.iload_n 2, 1) := by decide +kernel
theorem dX5_expected_120 : decode cX5_expected 120 = .ok (.invokevirtual 82, 3) := by decide +kernel
theorem dX5_expected_123 : decode cX5_expected 123 = .ok (.invokevirtual 69, 3) := by decide +kernel
theorem dX5_expected_126 : decode cX5_expected 126 = .ok (.istore 5, 2) := by decide +kernel
theorem dX5_expected_128 : decode cX5_expected 128 = .ok (.iload 5, 2) := by decide +kernel
theorem dX5_expected_130 : decode cX5_expected 130 = .ok (.iload 6, 2) := by decide +kernel
theorem dX5_expected_132 : decode cX5_expected 132 = .ok (.invokestatic 113, 3) := by decide +kernel
theorem dX5_expected_135 : decode cX5_expected 135 = .ok (.istore 7, 2) := by decide +kernel
theorem dX5_expected_137 : decode cX5_expected 137 = .ok (.iload_n 3, 1) := by decide +kernel
theorem dX5_expected_138 : decode cX5_expected 138 = .ok (.ifCond .ne 11, 3) := by decide +kernel
theorem dX5_expected_141 : decode cX5_expected 141 = .ok (.iload 5, 2) := by decide +kernel
theorem dX5_expected_143 : decode cX5_expected 143 = .ok (.iload 7, 2) := by decide +kernel
theorem dX5_expected_145 : decode cX5_expected 145 = .ok (.idiv, 1) := by decide +kernel
theorem dX5_expected_146 : decode cX5_expected 146 = .ok (.goto 8, 3) := by decide +kernel
theorem dX5_expected_149 : decode cX5_expected 149 = .ok (.iload 6, 2) := by decide +kernel
theorem dX5_expected_151 : decode cX5_expected 151 = .ok (.iload 7, 2) := by decide +kernel
theorem dX5_expected_153 : decode cX5_expected 153 = .ok (.idiv, 1) := by decide +kernel
theorem dX5_expected_154 : decode cX5_expected 154 = .ok (.ireturn, 1) := by decide +kernel
set_option maxRecDepth 20000 in
theorem ggX5_expectedLength_X5_isDispatcher : GoodIn wsX5_expectedLength wsX5_isDispatcher := goodIn_r _ [6, 7, 8, 9, 5, 10, 55, 56, 57, 58, 59, 60] (by decide +kernel) (by decide +kernel)
set_option maxRecDepth 20000 in
theorem gX5_expectedLength_X5_isDispatcher : GoodIn wsX5_expectedLength (wsV RX5 58 RX5 yX5_isDispatcher wsX5_isDispatcher) := goodIn_app (goodIn_of _ (by decide +kernel)) ggX5_expectedLength_X5_isDispatcher
set_option maxRecDepth 20000 in
theorem ggX5_expectedLength_X5_in : GoodIn wsX5_expectedLength wsX5_in := goodIn_r _ [10] (by decide +kernel) (by decide +kernel)
set_option maxRecDepth 20000 in
theorem gX5_expectedLength_X5_in : GoodIn wsX5_expectedLength (va_wsS RX5 23 yX5_in wsX5_in) := goodIn_app (goodIn_of _ (by decide +kernel)) ggX5_expectedLength_X5_in
set_option maxRecDepth 20000 in
theorem ggX5_expectedLength_X5_refuse : GoodIn wsX5_expectedLength wsX5_refuse := goodIn_r _ [14, 1, 55, 56, 57, 58, 59, 60] (by decide +kernel) (by decide +kernel)
set_option maxRecDepth 20000 in
theorem gX5_expectedLength_X5_refuse : GoodIn wsX5_expectedLength (wsV RX5 48 RX5 yX5_refuse wsX5_refuse) := goodIn_app (goodIn_of _ (by decide +kernel)) ggX5_expectedLength_X5_refuse
set_option maxRecDepth 20000 in
theorem ggX5_expectedLength_X5_findCandidates : GoodIn wsX5_expectedLength wsX5_findCandidates := goodIn_r _ [18, 7, 19, 20, 21, 22, 5, 23, 55, 56, 57, 58, 59, 60] (by decide +kernel) (by decide +kernel)
set_option maxRecDepth 20000 in
theorem gX5_expectedLength_X5_findCandidates : GoodIn wsX5_expectedLength (wsV RX5 85 RX5 yX5_findCandidates wsX5_findCandidates) := goodIn_app (goodIn_of _ (by decide +kernel)) ggX5_expectedLength_X5_findCandidates
set_option maxRecDepth 20000 in
theorem ggX5_expectedLength_X5_expected : GoodIn wsX5_expectedLength wsX5_expected := goodIn_r _ [27, 7, 28, 29, 30, 5, 31, 19, 32, 33, 34, 35, 36, 37, 38, 39, 40, 41, 42, 43, 44, 45, 46, 47, 48, 49, 50, 51, 52, 53, 54, 55, 56, 57, 58, 59, 60] (by decide +kernel) (by decide +kernel)
set_option maxRecDepth 20000 in
theorem gX5_expectedLength_X5_expected : GoodIn wsX5_expectedLength (wsV RX5 116 RX5 yX5_expected wsX5_expected) := goodIn_app (goodIn_of _ (by decide +kernel)) ggX5_expectedLength_X5_expected
theorem dX5_expectedLength_0 : decode cX5_expectedLength 0 = .ok (.aload_n 0, 1) := by decide +kernel
theorem dX5_expectedLength_1 : decode cX5_expectedLength 1 = .ok (.iconst 0, 1) := by decide +kernel
theorem dX5_expectedLength_2 : decode cX5_expectedLength 2 = .ok (.putfield 19, 3) := by decide +kernel
theorem dX5_expectedLength_5 : decode cX5_expectedLength 5 = .ok (.aload_n 0, 1) := by decide +kernel
theorem dX5_expectedLength_6 : decode cX5_expectedLength 6 = .ok (.iload_n 1, 1) := by decide +kernel
theorem dX5_expectedLength_7 : decode cX5_expectedLength 7 = .ok (.invokevirtual 58, 3) := by decide +kernel
theorem dX5_expectedLength_10 : decode cX5_expectedLength 10 = .ok (.ifCond .eq 12, 3) := by decide +kernel
theorem dX5_expectedLength_13 : decode cX5_expectedLength 13 = .ok (.iload_n 2, 1) := by decide +kernel
theorem dX5_expectedLength_14 : decode cX5_expectedLength 14 = .ok (.iconst 0, 1) := by decide +kernel
theorem dX5_expectedLength_15 : decode cX5_expectedLength 15 = .ok (.iconst 1, 1) := by decide +kernel
theorem dX5_expectedLength_16 : decode cX5_expectedLength 16 = .ok (.invokestatic 23, 3) := by decide +kernel
theorem dX5_expectedLength_19 : decode cX5_expectedLength 19 = .ok (.ifCond .ne 9, 3) := by decide +kernel
theorem dX5_expectedLength_22 : decode cX5_expectedLength 22 = .ok (.aload_n 0, 1) := by decide +kernel
theorem dX5_expectedLength_23 : decode cX5_expectedLength 23 = .ok (.iconst 1, 1) := by decide +kernel
theorem dX5_expectedLength_24 : decode cX5_expectedLength 24 = .ok (.invokevirtual 48, 3) := by decide +kernel
theorem dX5_expectedLength_27 : decode cX5_expectedLength 27 = .ok (.ireturn, 1) := by decide +kernel
theorem dX5_expectedLength_28 : decode cX5_expectedLength 28 = .ok (.aload_n 0, 1) := by decide +kernel
theorem dX5_expectedLength_29 : decode cX5_expectedLength 29 = .ok (.invokevirtual 85, 3) := by decide +kernel
theorem dX5_expectedLength_32 : decode cX5_expectedLength 32 = .ok (.istore_n 3, 1) := by decide +kernel
theorem dX5_expectedLength_33 : decode cX5_expectedLength 33 = .ok (.iload_n 3, 1) := by decide +kernel
theorem dX5_expectedLength_34 : decode cX5_expectedLength 34 = .ok (.ifCond .ne 11, 3) := by decide +kernel
theorem dX5_expectedLength_37 : decode cX5_expectedLength 37 = .ok (.aload_n 0, 1) := by decide +kernel
theorem dX5_expectedLength_38 : decode cX5_expectedLength 38 = .ok (.iconst 2, 1) := by decide +kernel
theorem dX5_expectedLength_39 : decode cX5_expectedLength 39 = .ok (.invokevirtual 48, 3) := by decide +kernel
theorem dX5_expectedLength_42 : decode cX5_expectedLength 42 = .ok (.goto 10, 3) := by decide +kernel
theorem dX5_expectedLength_45 : decode cX5_expectedLength 45 = .ok (.aload_n 0, 1) := by decide +kernel
theorem dX5_expectedLength_46 : decode cX5_expectedLength 46 = .ok (.iload_n 1, 1) := by decide +kernel
theorem dX5_expectedLength_47 : decode cX5_expectedLength 47 = .ok (.iload_n 3, 1) := by decide +kernel
theorem dX5_expectedLength_48 : decode cX5_expectedLength 48 = .ok (.iload_n 2, 1) := by decide +kernel
theorem dX5_expectedLength_49 : decode cX5_expectedLength 49 = .ok (.invokevirtual 116, 3) := by decide +kernel
theorem dX5_expectedLength_52 : decode cX5_expectedLength 52 = .ok (.ireturn, 1) := by decide +kernel
theorem dX5_submitted_0 : decode cX5_submitted 0 = .ok (.aload_n 0, 1) := by decide +kernel
theorem dX5_submitted_1 : decode cX5_submitted 1 = .ok (.iconst 0, 1) := by decide +kernel
theorem dX5_submitted_2 : decode cX5_submitted 2 = .ok (.putfield 19, 3) := by decide +kernel
theorem dX5_submitted_5 : decode cX5_submitted 5 = .ok (.aload_n 0, 1) := by decide +kernel
theorem dX5_submitted_6 : decode cX5_submitted 6 = .ok (.getfield 7, 3) := by decide +kernel
theorem dX5_submitted_9 : decode cX5_submitted 9 = .ok (.bipush 6, 2) := by decide +kernel
theorem dX5_submitted_11 : decode cX5_submitted 11 = .ok (.iaload, 1) := by decide +kernel
theorem dX5_submitted_12 : decode cX5_submitted 12 = .ok (.ireturn, 1) := by decide +kernel
theorem dX5_finished_0 : decode cX5_finished 0 = .ok (.aload_n 0, 1) := by decide +kernel
theorem dX5_finished_1 : decode cX5_finished 1 = .ok (.iconst 0, 1) := by decide +kernel
theorem dX5_finished_2 : decode cX5_finished 2 = .ok (.putfield 19, 3) := by decide +kernel
theorem dX5_finished_5 : decode cX5_finished 5 = .ok (.aload_n 0, 1) := by decide +kernel
theorem dX5_finished_6 : decode cX5_finished 6 = .ok (.getfield 7, 3) := by decide +kernel
theorem dX5_finished_9 : decode cX5_finished 9 = .ok (.bipush 7, 2) := by decide +kernel
theorem dX5_finished_11 : decode cX5_finished 11 = .ok (.iaload, 1) := by decide +kernel
theorem dX5_finished_12 : decode cX5_finished 12 = .ok (.ireturn, 1) := by decide +kernel
set_option maxRecDepth 20000 in
theorem ggX5_serverOf_X5_isJob : GoodIn wsX5_serverOf wsX5_isJob := goodIn_r _ [7, 2, 8, 9, 6, 10, 15, 16, 17, 18, 19, 20] (by decide +kernel) (by decide +kernel)
set_option maxRecDepth 20000 in
theorem gX5_serverOf_X5_isJob : GoodIn wsX5_serverOf (wsV RX5 120 RX5 yX5_isJob wsX5_isJob) := goodIn_app (goodIn_of _ (by decide +kernel)) ggX5_serverOf_X5_isJob
set_option maxRecDepth 20000 in
theorem ggX5_serverOf_X5_refuse : GoodIn wsX5_serverOf wsX5_refuse := goodIn_r _ [14, 1, 15, 16, 17, 18, 19, 20] (by decide +kernel) (by decide +kernel)
set_option maxRecDepth 20000 in
theorem gX5_serverOf_X5_refuse : GoodIn wsX5_serverOf (wsV RX5 48 RX5 yX5_refuse wsX5_refuse) := goodIn_app (goodIn_of _ (by decide +kernel)) ggX5_serverOf_X5_refuse
theorem dX5_serverOf_0 : decode cX5_serverOf 0 = .ok (.aload_n 0, 1) := by decide +kernel
theorem dX5_serverOf_1 : decode cX5_serverOf 1 = .ok (.iconst 0, 1) := by decide +kernel
theorem dX5_serverOf_2 : decode cX5_serverOf 2 = .ok (.putfield 19, 3) := by decide +kernel
theorem dX5_serverOf_5 : decode cX5_serverOf 5 = .ok (.aload_n 0, 1) := by decide +kernel
theorem dX5_serverOf_6 : decode cX5_serverOf 6 = .ok (.iload_n 1, 1) := by decide +kernel
theorem dX5_serverOf_7 : decode cX5_serverOf 7 = .ok (.invokevirtual 120, 3) := by decide +kernel
theorem dX5_serverOf_10 : decode cX5_serverOf 10 = .ok (.ifCond .eq 15, 3) := by decide +kernel
theorem dX5_serverOf_13 : decode cX5_serverOf 13 = .ok (.aload_n 0, 1) := by decide +kernel
theorem dX5_serverOf_14 : decode cX5_serverOf 14 = .ok (.getfield 7, 3) := by decide +kernel
theorem dX5_serverOf_17 : decode cX5_serverOf 17 = .ok (.bipush 93, 2) := by decide +kernel
theorem dX5_serverOf_19 : decode cX5_serverOf 19 = .ok (.iload_n 1, 1) := by decide +kernel
theorem dX5_serverOf_20 : decode cX5_serverOf 20 = .ok (.iadd, 1) := by decide +kernel
theorem dX5_serverOf_21 : decode cX5_serverOf 21 = .ok (.iaload, 1) := by decide +kernel
theorem dX5_serverOf_22 : decode cX5_serverOf 22 = .ok (.goto 8, 3) := by decide +kernel
theorem dX5_serverOf_25 : decode cX5_serverOf 25 = .ok (.aload_n 0, 1) := by decide +kernel
theorem dX5_serverOf_26 : decode cX5_serverOf 26 = .ok (.iconst 1, 1) := by decide +kernel
theorem dX5_serverOf_27 : decode cX5_serverOf 27 = .ok (.invokevirtual 48, 3) := by decide +kernel
theorem dX5_serverOf_30 : decode cX5_serverOf 30 = .ok (.ireturn, 1) := by decide +kernel
set_option maxRecDepth 20000 in
theorem ggX5_waitOf_X5_isJob : GoodIn wsX5_waitOf wsX5_isJob := goodIn_r _ [7, 2, 8, 9, 6, 10, 15, 16, 17, 18, 19, 20] (by decide +kernel) (by decide +kernel)
set_option maxRecDepth 20000 in
theorem gX5_waitOf_X5_isJob : GoodIn wsX5_waitOf (wsV RX5 120 RX5 yX5_isJob wsX5_isJob) := goodIn_app (goodIn_of _ (by decide +kernel)) ggX5_waitOf_X5_isJob
set_option maxRecDepth 20000 in
theorem ggX5_waitOf_X5_refuse : GoodIn wsX5_waitOf wsX5_refuse := goodIn_r _ [14, 1, 15, 16, 17, 18, 19, 20] (by decide +kernel) (by decide +kernel)
set_option maxRecDepth 20000 in
theorem gX5_waitOf_X5_refuse : GoodIn wsX5_waitOf (wsV RX5 48 RX5 yX5_refuse wsX5_refuse) := goodIn_app (goodIn_of _ (by decide +kernel)) ggX5_waitOf_X5_refuse
theorem dX5_waitOf_0 : decode cX5_waitOf 0 = .ok (.aload_n 0, 1) := by decide +kernel
theorem dX5_waitOf_1 : decode cX5_waitOf 1 = .ok (.iconst 0, 1) := by decide +kernel
theorem dX5_waitOf_2 : decode cX5_waitOf 2 = .ok (.putfield 19, 3) := by decide +kernel
theorem dX5_waitOf_5 : decode cX5_waitOf 5 = .ok (.aload_n 0, 1) := by decide +kernel
theorem dX5_waitOf_6 : decode cX5_waitOf 6 = .ok (.iload_n 1, 1) := by decide +kernel
theorem dX5_waitOf_7 : decode cX5_waitOf 7 = .ok (.invokevirtual 120, 3) := by decide +kernel
theorem dX5_waitOf_10 : decode cX5_waitOf 10 = .ok (.ifCond .eq 16, 3) := by decide +kernel
theorem dX5_waitOf_13 : decode cX5_waitOf 13 = .ok (.aload_n 0, 1) := by decide +kernel
theorem dX5_waitOf_14 : decode cX5_waitOf 14 = .ok (.getfield 7, 3) := by decide +kernel
theorem dX5_waitOf_17 : decode cX5_waitOf 17 = .ok (.sipush 493, 3) := by decide +kernel
theorem dX5_waitOf_20 : decode cX5_waitOf 20 = .ok (.iload_n 1, 1) := by decide +kernel
theorem dX5_waitOf_21 : decode cX5_waitOf 21 = .ok (.iadd, 1) := by decide +kernel
theorem dX5_waitOf_22 : decode cX5_waitOf 22 = .ok (.iaload, 1) := by decide +kernel
theorem dX5_waitOf_23 : decode cX5_waitOf 23 = .ok (.goto 8, 3) := by decide +kernel
theorem dX5_waitOf_26 : decode cX5_waitOf 26 = .ok (.aload_n 0, 1) := by decide +kernel
theorem dX5_waitOf_27 : decode cX5_waitOf 27 = .ok (.iconst 1, 1) := by decide +kernel
theorem dX5_waitOf_28 : decode cX5_waitOf 28 = .ok (.invokevirtual 48, 3) := by decide +kernel
theorem dX5_waitOf_31 : decode cX5_waitOf 31 = .ok (.ireturn, 1) := by decide +kernel
theorem dX5_waits_0 : decode cX5_waits 0 = .ok (.iconst 0, 1) := by decide +kernel
theorem dX5_waits_1 : decode cX5_waits 1 = .ok (.istore_n 1, 1) := by decide +kernel
theorem dX5_waits_2 : decode cX5_waits 2 = .ok (.iconst 0, 1) := by decide +kernel
theorem dX5_waits_3 : decode cX5_waits 3 = .ok (.istore_n 2, 1) := by decide +kernel
theorem dX5_waits_4 : decode cX5_waits 4 = .ok (.iload_n 2, 1) := by decide +kernel
theorem dX5_waits_5 : decode cX5_waits 5 = .ok (.aload_n 0, 1) := by decide +kernel
theorem dX5_waits_6 : decode cX5_waits 6 = .ok (.getfield 7, 3) := by decide +kernel
theorem dX5_waits_9 : decode cX5_waits 9 = .ok (.bipush 6, 2) := by decide +kernel
theorem dX5_waits_11 : decode cX5_waits 11 = .ok (.iaload, 1) := by decide +kernel
theorem dX5_waits_12 : decode cX5_waits 12 = .ok (.if_icmp .ge 40, 3) := by decide +kernel
theorem dX5_waits_15 : decode cX5_waits 15 = .ok (.iload_n 1, 1) := by decide +kernel
theorem dX5_waits_16 : decode cX5_waits 16 = .ok (.aload_n 0, 1) := by decide +kernel
theorem dX5_waits_17 : decode cX5_waits 17 = .ok (.getfield 7, 3) := by decide +kernel
theorem dX5_waits_20 : decode cX5_waits 20 = .ok (.sipush 493, 3) := by decide +kernel
theorem dX5_waits_23 : decode cX5_waits 23 = .ok (.iload_n 2, 1) := by decide +kernel
theorem dX5_waits_24 : decode cX5_waits 24 = .ok (.iadd, 1) := by decide +kernel
theorem dX5_waits_25 : decode cX5_waits 25 = .ok (.iaload, 1) := by decide +kernel
theorem dX5_waits_26 : decode cX5_waits 26 = .ok (.iconst (-1), 1) := by decide +kernel
theorem dX5_waits_27 : decode cX5_waits 27 = .ok (.if_icmp .ne 7, 3) := by decide +kernel
theorem dX5_waits_30 : decode cX5_waits 30 = .ok (.iconst 0, 1) := by decide +kernel
theorem dX5_waits_31 : decode cX5_waits 31 = .ok (.goto 13, 3) := by decide +kernel
theorem dX5_waits_34 : decode cX5_waits 34 = .ok (.aload_n 0, 1) := by decide +kernel
theorem dX5_waits_35 : decode cX5_waits 35 = .ok (.getfield 7, 3) := by decide +kernel
theorem dX5_waits_38 : decode cX5_waits 38 = .ok (.sipush 493, 3) := by decide +kernel
theorem dX5_waits_41 : decode cX5_waits 41 = .ok (.iload_n 2, 1) := by decide +kernel
theorem dX5_waits_42 : decode cX5_waits 42 = .ok (.iadd, 1) := by decide +kernel
theorem dX5_waits_43 : decode cX5_waits 43 = .ok (.iaload, 1) := by decide +kernel
theorem dX5_waits_44 : decode cX5_waits 44 = .ok (.iadd, 1) := by decide +kernel
theorem dX5_waits_45 : decode cX5_waits 45 = .ok (.istore_n 1, 1) := by decide +kernel
theorem dX5_waits_46 : decode cX5_waits 46 = .ok (.iinc 2 1, 3) := by decide +kernel
theorem dX5_waits_49 : decode cX5_waits 49 = .ok (.goto (-45), 3) := by decide +kernel
theorem dX5_waits_52 : decode cX5_waits 52 = .ok (.iload_n 1, 1) := by decide +kernel
theorem dX5_waits_53 : decode cX5_waits 53 = .ok (.ireturn, 1) := by decide +kernel
theorem dX5_begun_0 : decode cX5_begun 0 = .ok (.iconst 0, 1) := by decide +kernel
theorem dX5_begun_1 : decode cX5_begun 1 = .ok (.istore_n 1, 1) := by decide +kernel
theorem dX5_begun_2 : decode cX5_begun 2 = .ok (.iconst 0, 1) := by decide +kernel
theorem dX5_begun_3 : decode cX5_begun 3 = .ok (.istore_n 2, 1) := by decide +kernel
theorem dX5_begun_4 : decode cX5_begun 4 = .ok (.iload_n 2, 1) := by decide +kernel
theorem dX5_begun_5 : decode cX5_begun 5 = .ok (.aload_n 0, 1) := by decide +kernel
theorem dX5_begun_6 : decode cX5_begun 6 = .ok (.getfield 7, 3) := by decide +kernel
theorem dX5_begun_9 : decode cX5_begun 9 = .ok (.bipush 6, 2) := by decide +kernel
theorem dX5_begun_11 : decode cX5_begun 11 = .ok (.iaload, 1) := by decide +kernel
theorem dX5_begun_12 : decode cX5_begun 12 = .ok (.if_icmp .ge 31, 3) := by decide +kernel
theorem dX5_begun_15 : decode cX5_begun 15 = .ok (.iload_n 1, 1) := by decide +kernel
theorem dX5_begun_16 : decode cX5_begun 16 = .ok (.aload_n 0, 1) := by decide +kernel
theorem dX5_begun_17 : decode cX5_begun 17 = .ok (.getfield 7, 3) := by decide +kernel
theorem dX5_begun_20 : decode cX5_begun 20 = .ok (.sipush 493, 3) := by decide +kernel
theorem dX5_begun_23 : decode cX5_begun 23 = .ok (.iload_n 2, 1) := by decide +kernel
theorem dX5_begun_24 : decode cX5_begun 24 = .ok (.iadd, 1) := by decide +kernel
theorem dX5_begun_25 : decode cX5_begun 25 = .ok (.iaload, 1) := by decide +kernel
theorem dX5_begun_26 : decode cX5_begun 26 = .ok (.iconst (-1), 1) := by decide +kernel
theorem dX5_begun_27 : decode cX5_begun 27 = .ok (.if_icmp .ne 7, 3) := by decide +kernel
theorem dX5_begun_30 : decode cX5_begun 30 = .ok (.iconst 0, 1) := by decide +kernel
theorem dX5_begun_31 : decode cX5_begun 31 = .ok (.goto 4, 3) := by decide +kernel
theorem dX5_begun_34 : decode cX5_begun 34 = .ok (.iconst 1, 1) := by decide +kernel
theorem dX5_begun_35 : decode cX5_begun 35 = .ok (.iadd, 1) := by decide +kernel
theorem dX5_begun_36 : decode cX5_begun 36 = .ok (.istore_n 1, 1) := by decide +kernel
theorem dX5_begun_37 : decode cX5_begun 37 = .ok (.iinc 2 1, 3) := by decide +kernel
theorem dX5_begun_40 : decode cX5_begun 40 = .ok (.goto (-36), 3) := by decide +kernel
theorem dX5_begun_43 : decode cX5_begun 43 = .ok (.iload_n 1, 1) := by decide +kernel
theorem dX5_begun_44 : decode cX5_begun 44 = .ok (.ireturn, 1) := by decide +kernel
set_option maxRecDepth 20000 in
theorem ggX5_meanWait_X5_begun : GoodIn wsX5_meanWait wsX5_begun := goodIn_r _ [6, 7, 12, 13, 14, 15, 16, 17] (by decide +kernel) (by decide +kernel)
set_option maxRecDepth 20000 in
theorem gX5_meanWait_X5_begun : GoodIn wsX5_meanWait (wsV RX5 123 RX5 yX5_begun wsX5_begun) := goodIn_app (goodIn_of _ (by decide +kernel)) ggX5_meanWait_X5_begun
set_option maxRecDepth 20000 in
theorem ggX5_meanWait_X5_waits : GoodIn wsX5_meanWait wsX5_waits := goodIn_r _ [11, 7, 12, 13, 14, 15, 16, 17] (by decide +kernel) (by decide +kernel)
set_option maxRecDepth 20000 in
theorem gX5_meanWait_X5_waits : GoodIn wsX5_meanWait (wsV RX5 126 RX5 yX5_waits wsX5_waits) := goodIn_app (goodIn_of _ (by decide +kernel)) ggX5_meanWait_X5_waits
theorem dX5_meanWait_0 : decode cX5_meanWait 0 = .ok (.aload_n 0, 1) := by decide +kernel
theorem dX5_meanWait_1 : decode cX5_meanWait 1 = .ok (.iconst 0, 1) := by decide +kernel
theorem dX5_meanWait_2 : decode cX5_meanWait 2 = .ok (.putfield 19, 3) := by decide +kernel
theorem dX5_meanWait_5 : decode cX5_meanWait 5 = .ok (.aload_n 0, 1) := by decide +kernel
theorem dX5_meanWait_6 : decode cX5_meanWait 6 = .ok (.invokevirtual 123, 3) := by decide +kernel
theorem dX5_meanWait_9 : decode cX5_meanWait 9 = .ok (.istore_n 1, 1) := by decide +kernel
theorem dX5_meanWait_10 : decode cX5_meanWait 10 = .ok (.iload_n 1, 1) := by decide +kernel
theorem dX5_meanWait_11 : decode cX5_meanWait 11 = .ok (.ifCond .ne 7, 3) := by decide +kernel
theorem dX5_meanWait_14 : decode cX5_meanWait 14 = .ok (.dconst 0, 1) := by decide +kernel
theorem dX5_meanWait_15 : decode cX5_meanWait 15 = .ok (.goto 11, 3) := by decide +kernel
theorem dX5_meanWait_18 : decode cX5_meanWait 18 = .ok (.aload_n 0, 1) := by decide +kernel
theorem dX5_meanWait_19 : decode cX5_meanWait 19 = .ok (.invokevirtual 126, 3) := by decide +kernel
theorem dX5_meanWait_22 : decode cX5_meanWait 22 = .ok (.i2d, 1) := by decide +kernel
theorem dX5_meanWait_23 : decode cX5_meanWait 23 = .ok (.iload_n 1, 1) := by decide +kernel
theorem dX5_meanWait_24 : decode cX5_meanWait 24 = .ok (.i2d, 1) := by decide +kernel
theorem dX5_meanWait_25 : decode cX5_meanWait 25 = .ok (.ddiv, 1) := by decide +kernel
theorem dX5_meanWait_26 : decode cX5_meanWait 26 = .ok (.dreturn, 1) := by decide +kernel
theorem dX5_missed_0 : decode cX5_missed 0 = .ok (.aload_n 0, 1) := by decide +kernel
theorem dX5_missed_1 : decode cX5_missed 1 = .ok (.iconst 0, 1) := by decide +kernel
theorem dX5_missed_2 : decode cX5_missed 2 = .ok (.putfield 19, 3) := by decide +kernel
theorem dX5_missed_5 : decode cX5_missed 5 = .ok (.aload_n 0, 1) := by decide +kernel
theorem dX5_missed_6 : decode cX5_missed 6 = .ok (.getfield 7, 3) := by decide +kernel
theorem dX5_missed_9 : decode cX5_missed 9 = .ok (.bipush 8, 2) := by decide +kernel
theorem dX5_missed_11 : decode cX5_missed 11 = .ok (.iaload, 1) := by decide +kernel
theorem dX5_missed_12 : decode cX5_missed 12 = .ok (.ireturn, 1) := by decide +kernel
theorem dX5_now_0 : decode cX5_now 0 = .ok (.aload_n 0, 1) := by decide +kernel
theorem dX5_now_1 : decode cX5_now 1 = .ok (.iconst 0, 1) := by decide +kernel
theorem dX5_now_2 : decode cX5_now 2 = .ok (.putfield 19, 3) := by decide +kernel
theorem dX5_now_5 : decode cX5_now 5 = .ok (.aload_n 0, 1) := by decide +kernel
theorem dX5_now_6 : decode cX5_now 6 = .ok (.getfield 7, 3) := by decide +kernel
theorem dX5_now_9 : decode cX5_now 9 = .ok (.iconst 1, 1) := by decide +kernel
theorem dX5_now_10 : decode cX5_now 10 = .ok (.iaload, 1) := by decide +kernel
theorem dX5_now_11 : decode cX5_now 11 = .ok (.ireturn, 1) := by decide +kernel
set_option maxRecDepth 20000 in
theorem ggX5_undo_X5_refuse : GoodIn wsX5_undo wsX5_refuse := goodIn_r _ [9, 1, 10, 11, 12, 13, 14, 15] (by decide +kernel) (by decide +kernel)
set_option maxRecDepth 20000 in
theorem gX5_undo_X5_refuse : GoodIn wsX5_undo (wsV RX5 48 RX5 yX5_refuse wsX5_refuse) := goodIn_app (goodIn_of _ (by decide +kernel)) ggX5_undo_X5_refuse
theorem dX5_undo_0 : decode cX5_undo 0 = .ok (.aload_n 0, 1) := by decide +kernel
theorem dX5_undo_1 : decode cX5_undo 1 = .ok (.iconst 0, 1) := by decide +kernel
theorem dX5_undo_2 : decode cX5_undo 2 = .ok (.putfield 19, 3) := by decide +kernel
theorem dX5_undo_5 : decode cX5_undo 5 = .ok (.aload_n 0, 1) := by decide +kernel
theorem dX5_undo_6 : decode cX5_undo 6 = .ok (.getfield 27, 3) := by decide +kernel
theorem dX5_undo_9 : decode cX5_undo 9 = .ok (.ifCond .ne 9, 3) := by decide +kernel
theorem dX5_undo_12 : decode cX5_undo 12 = .ok (.aload_n 0, 1) := by decide +kernel
theorem dX5_undo_13 : decode cX5_undo 13 = .ok (.iconst 1, 1) := by decide +kernel
theorem dX5_undo_14 : decode cX5_undo 14 = .ok (.invokevirtual 48, 3) := by decide +kernel
theorem dX5_undo_17 : decode cX5_undo 17 = .ok (.ireturn, 1) := by decide +kernel
theorem dX5_undo_18 : decode cX5_undo 18 = .ok (.aload_n 0, 1) := by decide +kernel
theorem dX5_undo_19 : decode cX5_undo 19 = .ok (.dup, 1) := by decide +kernel
theorem dX5_undo_20 : decode cX5_undo 20 = .ok (.getfield 27, 3) := by decide +kernel
theorem dX5_undo_23 : decode cX5_undo 23 = .ok (.iconst 1, 1) := by decide +kernel
theorem dX5_undo_24 : decode cX5_undo 24 = .ok (.isub, 1) := by decide +kernel
theorem dX5_undo_25 : decode cX5_undo 25 = .ok (.putfield 27, 3) := by decide +kernel
theorem dX5_undo_28 : decode cX5_undo 28 = .ok (.iconst 0, 1) := by decide +kernel
theorem dX5_undo_29 : decode cX5_undo 29 = .ok (.istore_n 1, 1) := by decide +kernel
theorem dX5_undo_30 : decode cX5_undo 30 = .ok (.iload_n 1, 1) := by decide +kernel
theorem dX5_undo_31 : decode cX5_undo 31 = .ok (.sipush 893, 3) := by decide +kernel
theorem dX5_undo_34 : decode cX5_undo 34 = .ok (.if_icmp .ge 30, 3) := by decide +kernel
theorem dX5_undo_37 : decode cX5_undo 37 = .ok (.aload_n 0, 1) := by decide +kernel
theorem dX5_undo_38 : decode cX5_undo 38 = .ok (.getfield 7, 3) := by decide +kernel
theorem dX5_undo_41 : decode cX5_undo 41 = .ok (.iload_n 1, 1) := by decide +kernel
theorem dX5_undo_42 : decode cX5_undo 42 = .ok (.aload_n 0, 1) := by decide +kernel
theorem dX5_undo_43 : decode cX5_undo 43 = .ok (.getfield 13, 3) := by decide +kernel
theorem dX5_undo_46 : decode cX5_undo 46 = .ok (.sipush 893, 3) := by decide +kernel
theorem dX5_undo_49 : decode cX5_undo 49 = .ok (.aload_n 0, 1) := by decide +kernel
theorem dX5_undo_50 : decode cX5_undo 50 = .ok (.getfield 27, 3) := by decide +kernel
theorem dX5_undo_53 : decode cX5_undo 53 = .ok (.imul, 1) := by decide +kernel
theorem dX5_undo_54 : decode cX5_undo 54 = .ok (.iload_n 1, 1) := by decide +kernel
theorem dX5_undo_55 : decode cX5_undo 55 = .ok (.iadd, 1) := by decide +kernel
theorem dX5_undo_56 : decode cX5_undo 56 = .ok (.iaload, 1) := by decide +kernel
theorem dX5_undo_57 : decode cX5_undo 57 = .ok (.iastore, 1) := by decide +kernel
theorem dX5_undo_58 : decode cX5_undo 58 = .ok (.iinc 1 1, 3) := by decide +kernel
theorem dX5_undo_61 : decode cX5_undo 61 = .ok (.goto (-31), 3) := by decide +kernel
theorem dX5_undo_64 : decode cX5_undo 64 = .ok (.aload_n 0, 1) := by decide +kernel
theorem dX5_undo_65 : decode cX5_undo 65 = .ok (.getfield 27, 3) := by decide +kernel
theorem dX5_undo_68 : decode cX5_undo 68 = .ok (.ireturn, 1) := by decide +kernel
theorem dX5_mix_0 : decode cX5_mix 0 = .ok (.aload_n 0, 1) := by decide +kernel
theorem dX5_mix_1 : decode cX5_mix 1 = .ok (.ldc2_w 129, 3) := by decide +kernel
theorem dX5_mix_4 : decode cX5_mix 4 = .ok (.aload_n 0, 1) := by decide +kernel
theorem dX5_mix_5 : decode cX5_mix 5 = .ok (.getfield 131, 3) := by decide +kernel
theorem dX5_mix_8 : decode cX5_mix 8 = .ok (.lmul, 1) := by decide +kernel
theorem dX5_mix_9 : decode cX5_mix 9 = .ok (.iload_n 1, 1) := by decide +kernel
theorem dX5_mix_10 : decode cX5_mix 10 = .ok (.i2l, 1) := by decide +kernel
theorem dX5_mix_11 : decode cX5_mix 11 = .ok (.ladd, 1) := by decide +kernel
theorem dX5_mix_12 : decode cX5_mix 12 = .ok (.putfield 131, 3) := by decide +kernel
theorem dX5_mix_15 : decode cX5_mix 15 = .ok (.return_, 1) := by decide +kernel
set_option maxRecDepth 20000 in
theorem ggX5_mixServers_X5_mix : GoodIn wsX5_mixServers wsX5_mix := goodIn_r _ [6, 7, 8, 25, 26, 27, 28, 29, 30] (by decide +kernel) (by decide +kernel)
set_option maxRecDepth 20000 in
theorem gX5_mixServers_X5_mix : GoodIn wsX5_mixServers (wsV RX5 135 RX5 yX5_mix wsX5_mix) := goodIn_app (goodIn_of _ (by decide +kernel)) ggX5_mixServers_X5_mix
set_option maxRecDepth 20000 in
theorem ggX5_mixServers_X5_lengthOf : GoodIn wsX5_mixServers wsX5_lengthOf := goodIn_r _ [12, 1, 13, 14, 15, 5, 16, 25, 26, 27, 28, 29, 30] (by decide +kernel) (by decide +kernel)
set_option maxRecDepth 20000 in
theorem gX5_mixServers_X5_lengthOf : GoodIn wsX5_mixServers (wsV RX5 69 RX5 yX5_lengthOf wsX5_lengthOf) := goodIn_app (goodIn_of _ (by decide +kernel)) ggX5_mixServers_X5_lengthOf
set_option maxRecDepth 20000 in
theorem ggX5_mixServers_X5_workOf : GoodIn wsX5_mixServers wsX5_workOf := goodIn_r _ [20, 1, 13, 14, 15, 5, 16, 25, 26, 27, 28, 29, 30] (by decide +kernel) (by decide +kernel)
set_option maxRecDepth 20000 in
theorem gX5_mixServers_X5_workOf : GoodIn wsX5_mixServers (wsV RX5 104 RX5 yX5_workOf wsX5_workOf) := goodIn_app (goodIn_of _ (by decide +kernel)) ggX5_mixServers_X5_workOf
set_option maxRecDepth 20000 in
theorem ggX5_mixServers_X5_listOf : GoodIn wsX5_mixServers wsX5_listOf := goodIn_r _ [24, 1, 25, 26, 27, 28, 29, 30] (by decide +kernel) (by decide +kernel)
set_option maxRecDepth 20000 in
theorem gX5_mixServers_X5_listOf : GoodIn wsX5_mixServers (wsV RX5 45 RX5 yX5_listOf wsX5_listOf) := goodIn_app (goodIn_of _ (by decide +kernel)) ggX5_mixServers_X5_listOf
theorem dX5_mixServers_0 : decode cX5_mixServers 0 = .ok (.aload_n 0, 1) := by decide +kernel
theorem dX5_mixServers_1 : decode cX5_mixServers 1 = .ok (.aload_n 0, 1) := by decide +kernel
theorem dX5_mixServers_2 : decode cX5_mixServers 2 = .ok (.getfield 7, 3) := by decide +kernel
theorem dX5_mixServers_5 : decode cX5_mixServers 5 = .ok (.iconst 4, 1) := by decide +kernel
theorem dX5_mixServers_6 : decode cX5_mixServers 6 = .ok (.iaload, 1) := by decide +kernel
theorem dX5_mixServers_7 : decode cX5_mixServers 7 = .ok (.invokevirtual 135, 3) := by decide +kernel
theorem dX5_mixServers_10 : decode cX5_mixServers 10 = .ok (.iconst 0, 1) := by decide +kernel
theorem dX5_mixServers_11 : decode cX5_mixServers 11 = .ok (.istore_n 1, 1) := by decide +kernel
theorem dX5_mixServers_12 : decode cX5_mixServers 12 = .ok (.iload_n 1, 1) := by decide +kernel
theorem dX5_mixServers_13 : decode cX5_mixServers 13 = .ok (.aload_n 0, 1) := by decide +kernel
theorem dX5_mixServers_14 : decode cX5_mixServers 14 = .ok (.getfield 7, 3) := by decide +kernel
theorem dX5_mixServers_17 : decode cX5_mixServers 17 = .ok (.iconst 4, 1) := by decide +kernel
theorem dX5_mixServers_18 : decode cX5_mixServers 18 = .ok (.iaload, 1) := by decide +kernel
theorem dX5_mixServers_19 : decode cX5_mixServers 19 = .ok (.if_icmp .ge 49, 3) := by decide +kernel
theorem dX5_mixServers_22 : decode cX5_mixServers 22 = .ok (.aload_n 0, 1) := by decide +kernel
theorem dX5_mixServers_23 : decode cX5_mixServers 23 = .ok (.aload_n 0, 1) := by decide +kernel
theorem dX5_mixServers_24 : decode cX5_mixServers 24 = .ok (.getfield 7, 3) := by decide +kernel
theorem dX5_mixServers_27 : decode cX5_mixServers 27 = .ok (.bipush 9, 2) := by decide +kernel
theorem dX5_mixServers_29 : decode cX5_mixServers 29 = .ok (.iload_n 1, 1) := by decide +kernel
theorem dX5_mixServers_30 : decode cX5_mixServers 30 = .ok (.iadd, 1) := by decide +kernel
theorem dX5_mixServers_31 : decode cX5_mixServers 31 = .ok (.iaload, 1) := by decide +kernel
theorem dX5_mixServers_32 : decode cX5_mixServers 32 = .ok (.invokevirtual 135, 3) := by decide +kernel
theorem dX5_mixServers_35 : decode cX5_mixServers 35 = .ok (.aload_n 0, 1) := by decide +kernel
theorem dX5_mixServers_36 : decode cX5_mixServers 36 = .ok (.aload_n 0, 1) := by decide +kernel
theorem dX5_mixServers_37 : decode cX5_mixServers 37 = .ok (.iload_n 1, 1) := by decide +kernel
theorem dX5_mixServers_38 : decode cX5_mixServers 38 = .ok (.invokevirtual 69, 3) := by decide +kernel
theorem dX5_mixServers_41 : decode cX5_mixServers 41 = .ok (.invokevirtual 135, 3) := by decide +kernel
theorem dX5_mixServers_44 : decode cX5_mixServers 44 = .ok (.aload_n 0, 1) := by decide +kernel
theorem dX5_mixServers_45 : decode cX5_mixServers 45 = .ok (.aload_n 0, 1) := by decide +kernel
theorem dX5_mixServers_46 : decode cX5_mixServers 46 = .ok (.iload_n 1, 1) := by decide +kernel
theorem dX5_mixServers_47 : decode cX5_mixServers 47 = .ok (.invokevirtual 104, 3) := by decide +kernel
theorem dX5_mixServers_50 : decode cX5_mixServers 50 = .ok (.invokevirtual 135, 3) := by decide +kernel
theorem dX5_mixServers_53 : decode cX5_mixServers 53 = .ok (.aload_n 0, 1) := by decide +kernel
theorem dX5_mixServers_54 : decode cX5_mixServers 54 = .ok (.aload_n 0, 1) := by decide +kernel
theorem dX5_mixServers_55 : decode cX5_mixServers 55 = .ok (.iload_n 1, 1) := by decide +kernel
theorem dX5_mixServers_56 : decode cX5_mixServers 56 = .ok (.invokevirtual 45, 3) := by decide +kernel
theorem dX5_mixServers_59 : decode cX5_mixServers 59 = .ok (.invokevirtual 135, 3) := by decide +kernel
theorem dX5_mixServers_62 : decode cX5_mixServers 62 = .ok (.iinc 1 1, 3) := by decide +kernel
theorem dX5_mixServers_65 : decode cX5_mixServers 65 = .ok (.goto (-53), 3) := by decide +kernel
theorem dX5_mixServers_68 : decode cX5_mixServers 68 = .ok (.return_, 1) := by decide +kernel
set_option maxRecDepth 20000 in
theorem ggX5_mixDispatchers_X5_mix : GoodIn wsX5_mixDispatchers wsX5_mix := goodIn_r _ [6, 7, 8, 9, 10, 11, 12, 13, 14] (by decide +kernel) (by decide +kernel)
set_option maxRecDepth 20000 in
theorem gX5_mixDispatchers_X5_mix : GoodIn wsX5_mixDispatchers (wsV RX5 135 RX5 yX5_mix wsX5_mix) := goodIn_app (goodIn_of _ (by decide +kernel)) ggX5_mixDispatchers_X5_mix
theorem dX5_mixDispatchers_0 : decode cX5_mixDispatchers 0 = .ok (.aload_n 0, 1) := by decide +kernel
theorem dX5_mixDispatchers_1 : decode cX5_mixDispatchers 1 = .ok (.aload_n 0, 1) := by decide +kernel
theorem dX5_mixDispatchers_2 : decode cX5_mixDispatchers 2 = .ok (.getfield 7, 3) := by decide +kernel
theorem dX5_mixDispatchers_5 : decode cX5_mixDispatchers 5 = .ok (.iconst 5, 1) := by decide +kernel
theorem dX5_mixDispatchers_6 : decode cX5_mixDispatchers 6 = .ok (.iaload, 1) := by decide +kernel
theorem dX5_mixDispatchers_7 : decode cX5_mixDispatchers 7 = .ok (.invokevirtual 135, 3) := by decide +kernel
theorem dX5_mixDispatchers_10 : decode cX5_mixDispatchers 10 = .ok (.iconst 0, 1) := by decide +kernel
theorem dX5_mixDispatchers_11 : decode cX5_mixDispatchers 11 = .ok (.istore_n 1, 1) := by decide +kernel
theorem dX5_mixDispatchers_12 : decode cX5_mixDispatchers 12 = .ok (.iload_n 1, 1) := by decide +kernel
theorem dX5_mixDispatchers_13 : decode cX5_mixDispatchers 13 = .ok (.aload_n 0, 1) := by decide +kernel
theorem dX5_mixDispatchers_14 : decode cX5_mixDispatchers 14 = .ok (.getfield 7, 3) := by decide +kernel
theorem dX5_mixDispatchers_17 : decode cX5_mixDispatchers 17 = .ok (.iconst 5, 1) := by decide +kernel
theorem dX5_mixDispatchers_18 : decode cX5_mixDispatchers 18 = .ok (.iaload, 1) := by decide +kernel
theorem dX5_mixDispatchers_19 : decode cX5_mixDispatchers 19 = .ok (.if_icmp .ge 123, 3) := by decide +kernel
theorem dX5_mixDispatchers_22 : decode cX5_mixDispatchers 22 = .ok (.aload_n 0, 1) := by decide +kernel
theorem dX5_mixDispatchers_23 : decode cX5_mixDispatchers 23 = .ok (.aload_n 0, 1) := by decide +kernel
theorem dX5_mixDispatchers_24 : decode cX5_mixDispatchers 24 = .ok (.getfield 7, 3) := by decide +kernel
theorem dX5_mixDispatchers_27 : decode cX5_mixDispatchers 27 = .ok (.bipush 17, 2) := by decide +kernel
theorem dX5_mixDispatchers_29 : decode cX5_mixDispatchers 29 = .ok (.iload_n 1, 1) := by decide +kernel
theorem dX5_mixDispatchers_30 : decode cX5_mixDispatchers 30 = .ok (.iadd, 1) := by decide +kernel
theorem dX5_mixDispatchers_31 : decode cX5_mixDispatchers 31 = .ok (.iaload, 1) := by decide +kernel
theorem dX5_mixDispatchers_32 : decode cX5_mixDispatchers 32 = .ok (.invokevirtual 135, 3) := by decide +kernel
theorem dX5_mixDispatchers_35 : decode cX5_mixDispatchers 35 = .ok (.aload_n 0, 1) := by decide +kernel
theorem dX5_mixDispatchers_36 : decode cX5_mixDispatchers 36 = .ok (.aload_n 0, 1) := by decide +kernel
theorem dX5_mixDispatchers_37 : decode cX5_mixDispatchers 37 = .ok (.getfield 7, 3) := by decide +kernel
theorem dX5_mixDispatchers_40 : decode cX5_mixDispatchers 40 = .ok (.bipush 21, 2) := by decide +kernel
theorem dX5_mixDispatchers_42 : decode cX5_mixDispatchers 42 = .ok (.iload_n 1, 1) := by decide +kernel
theorem dX5_mixDispatchers_43 : decode cX5_mixDispatchers 43 = .ok (.iadd, 1) := by decide +kernel
theorem dX5_mixDispatchers_44 : decode cX5_mixDispatchers 44 = .ok (.iaload, 1) := by decide +kernel
theorem dX5_mixDispatchers_45 : decode cX5_mixDispatchers 45 = .ok (.invokevirtual 135, 3) := by decide +kernel
theorem dX5_mixDispatchers_48 : decode cX5_mixDispatchers 48 = .ok (.aload_n 0, 1) := by decide +kernel
theorem dX5_mixDispatchers_49 : decode cX5_mixDispatchers 49 = .ok (.aload_n 0, 1) := by decide +kernel
theorem dX5_mixDispatchers_50 : decode cX5_mixDispatchers 50 = .ok (.getfield 7, 3) := by decide +kernel
theorem dX5_mixDispatchers_53 : decode cX5_mixDispatchers 53 = .ok (.bipush 57, 2) := by decide +kernel
theorem dX5_mixDispatchers_55 : decode cX5_mixDispatchers 55 = .ok (.iload_n 1, 1) := by decide +kernel
theorem dX5_mixDispatchers_56 : decode cX5_mixDispatchers 56 = .ok (.iadd, 1) := by decide +kernel
theorem dX5_mixDispatchers_57 : decode cX5_mixDispatchers 57 = .ok (.iaload, 1) := by decide +kernel
theorem dX5_mixDispatchers_58 : decode cX5_mixDispatchers 58 = .ok (.invokevirtual 135, 3) := by decide +kernel
theorem dX5_mixDispatchers_61 : decode cX5_mixDispatchers 61 = .ok (.iconst 0, 1) := by decide +kernel
theorem dX5_mixDispatchers_62 : decode cX5_mixDispatchers 62 = .ok (.istore_n 2, 1) := by decide +kernel
theorem dX5_mixDispatchers_63 : decode cX5_mixDispatchers 63 = .ok (.iload_n 2, 1) := by decide +kernel
theorem dX5_mixDispatchers_64 : decode cX5_mixDispatchers 64 = .ok (.aload_n 0, 1) := by decide +kernel
theorem dX5_mixDispatchers_65 : decode cX5_mixDispatchers 65 = .ok (.getfield 7, 3) := by decide +kernel
theorem dX5_mixDispatchers_68 : decode cX5_mixDispatchers 68 = .ok (.bipush 57, 2) := by decide +kernel
theorem dX5_mixDispatchers_70 : decode cX5_mixDispatchers 70 = .ok (.iload_n 1, 1) := by decide +kernel
theorem dX5_mixDispatchers_71 : decode cX5_mixDispatchers 71 = .ok (.iadd, 1) := by decide +kernel
theorem dX5_mixDispatchers_72 : decode cX5_mixDispatchers 72 = .ok (.iaload, 1) := by decide +kernel
theorem dX5_mixDispatchers_73 : decode cX5_mixDispatchers 73 = .ok (.if_icmp .ge 27, 3) := by decide +kernel
theorem dX5_mixDispatchers_76 : decode cX5_mixDispatchers 76 = .ok (.aload_n 0, 1) := by decide +kernel
theorem dX5_mixDispatchers_77 : decode cX5_mixDispatchers 77 = .ok (.aload_n 0, 1) := by decide +kernel
theorem dX5_mixDispatchers_78 : decode cX5_mixDispatchers 78 = .ok (.getfield 7, 3) := by decide +kernel
theorem dX5_mixDispatchers_81 : decode cX5_mixDispatchers 81 = .ok (.bipush 61, 2) := by decide +kernel
theorem dX5_mixDispatchers_83 : decode cX5_mixDispatchers 83 = .ok (.bipush 8, 2) := by decide +kernel
theorem dX5_mixDispatchers_85 : decode cX5_mixDispatchers 85 = .ok (.iload_n 1, 1) := by decide +kernel
theorem dX5_mixDispatchers_86 : decode cX5_mixDispatchers 86 = .ok (.imul, 1) := by decide +kernel
theorem dX5_mixDispatchers_87 : decode cX5_mixDispatchers 87 = .ok (.iadd, 1) := by decide +kernel
theorem dX5_mixDispatchers_88 : decode cX5_mixDispatchers 88 = .ok (.iload_n 2, 1) := by decide +kernel
theorem dX5_mixDispatchers_89 : decode cX5_mixDispatchers 89 = .ok (.iadd, 1) := by decide +kernel
theorem dX5_mixDispatchers_90 : decode cX5_mixDispatchers 90 = .ok (.iaload, 1) := by decide +kernel
theorem dX5_mixDispatchers_91 : decode cX5_mixDispatchers 91 = .ok (.invokevirtual 135, 3) := by decide +kernel
theorem dX5_mixDispatchers_94 : decode cX5_mixDispatchers 94 = .ok (.iinc 2 1, 3) := by decide +kernel
theorem dX5_mixDispatchers_97 : decode cX5_mixDispatchers 97 = .ok (.goto (-34), 3) := by decide +kernel
theorem dX5_mixDispatchers_100 : decode cX5_mixDispatchers 100 = .ok (.iconst 0, 1) := by decide +kernel
theorem dX5_mixDispatchers_101 : decode cX5_mixDispatchers 101 = .ok (.istore_n 2, 1) := by decide +kernel
theorem dX5_mixDispatchers_102 : decode cX5_mixDispatchers 102 = .ok (.iload_n 2, 1) := by decide +kernel
theorem dX5_mixDispatchers_103 : decode cX5_mixDispatchers 103 = .ok (.aload_n 0, 1) := by decide +kernel
theorem dX5_mixDispatchers_104 : decode cX5_mixDispatchers 104 = .ok (.getfield 7, 3) := by decide +kernel
theorem dX5_mixDispatchers_107 : decode cX5_mixDispatchers 107 = .ok (.iconst 4, 1) := by decide +kernel
theorem dX5_mixDispatchers_108 : decode cX5_mixDispatchers 108 = .ok (.iaload, 1) := by decide +kernel
theorem dX5_mixDispatchers_109 : decode cX5_mixDispatchers 109 = .ok (.if_icmp .ge 27, 3) := by decide +kernel
theorem dX5_mixDispatchers_112 : decode cX5_mixDispatchers 112 = .ok (.aload_n 0, 1) := by decide +kernel
theorem dX5_mixDispatchers_113 : decode cX5_mixDispatchers 113 = .ok (.aload_n 0, 1) := by decide +kernel
theorem dX5_mixDispatchers_114 : decode cX5_mixDispatchers 114 = .ok (.getfield 7, 3) := by decide +kernel
theorem dX5_mixDispatchers_117 : decode cX5_mixDispatchers 117 = .ok (.bipush 25, 2) := by decide +kernel
theorem dX5_mixDispatchers_119 : decode cX5_mixDispatchers 119 = .ok (.bipush 8, 2) := by decide +kernel
theorem dX5_mixDispatchers_121 : decode cX5_mixDispatchers 121 = .ok (.iload_n 1, 1) := by decide +kernel
theorem dX5_mixDispatchers_122 : decode cX5_mixDispatchers 122 = .ok (.imul, 1) := by decide +kernel
theorem dX5_mixDispatchers_123 : decode cX5_mixDispatchers 123 = .ok (.iadd, 1) := by decide +kernel
theorem dX5_mixDispatchers_124 : decode cX5_mixDispatchers 124 = .ok (.iload_n 2, 1) := by decide +kernel
theorem dX5_mixDispatchers_125 : decode cX5_mixDispatchers 125 = .ok (.iadd, 1) := by decide +kernel
theorem dX5_mixDispatchers_126 : decode cX5_mixDispatchers 126 = .ok (.iaload, 1) := by decide +kernel
theorem dX5_mixDispatchers_127 : decode cX5_mixDispatchers 127 = .ok (.invokevirtual 135, 3) := by decide +kernel
theorem dX5_mixDispatchers_130 : decode cX5_mixDispatchers 130 = .ok (.iinc 2 1, 3) := by decide +kernel
theorem dX5_mixDispatchers_133 : decode cX5_mixDispatchers 133 = .ok (.goto (-31), 3) := by decide +kernel
theorem dX5_mixDispatchers_136 : decode cX5_mixDispatchers 136 = .ok (.iinc 1 1, 3) := by decide +kernel
theorem dX5_mixDispatchers_139 : decode cX5_mixDispatchers 139 = .ok (.goto (-127), 3) := by decide +kernel
theorem dX5_mixDispatchers_142 : decode cX5_mixDispatchers 142 = .ok (.return_, 1) := by decide +kernel
set_option maxRecDepth 20000 in
theorem ggX5_digest_X5_mix : GoodIn wsX5_digest wsX5_mix := goodIn_r _ [10, 11, 3, 40, 41, 42, 43, 44, 45] (by decide +kernel) (by decide +kernel)
set_option maxRecDepth 20000 in
theorem gX5_digest_X5_mix : GoodIn wsX5_digest (wsV RX5 135 RX5 yX5_mix wsX5_mix) := goodIn_app (goodIn_of _ (by decide +kernel)) ggX5_digest_X5_mix
set_option maxRecDepth 20000 in
theorem ggX5_digest_X5_mixServers : GoodIn wsX5_digest wsX5_mixServers := goodIn_r _ [15, 4, 6, 7, 8, 9, 10, 11, 3, 16, 17, 18, 19, 20, 21, 22, 23, 24, 25, 26, 27, 28, 29, 30, 31, 40, 41, 42, 43, 44, 45] (by decide +kernel) (by decide +kernel)
set_option maxRecDepth 20000 in
theorem gX5_digest_X5_mixServers : GoodIn wsX5_digest (wsV RX5 140 RX5 yX5_mixServers wsX5_mixServers) := goodIn_app (goodIn_of _ (by decide +kernel)) ggX5_digest_X5_mixServers
set_option maxRecDepth 20000 in
theorem ggX5_digest_X5_mixDispatchers : GoodIn wsX5_digest wsX5_mixDispatchers := goodIn_r _ [35, 4, 6, 7, 8, 9, 10, 11, 3, 40, 41, 42, 43, 44, 45] (by decide +kernel) (by decide +kernel)
set_option maxRecDepth 20000 in
theorem gX5_digest_X5_mixDispatchers : GoodIn wsX5_digest (wsV RX5 143 RX5 yX5_mixDispatchers wsX5_mixDispatchers) := goodIn_app (goodIn_of _ (by decide +kernel)) ggX5_digest_X5_mixDispatchers
set_option maxRecDepth 20000 in
theorem ggX5_digest_X5_waits : GoodIn wsX5_digest wsX5_waits := goodIn_r _ [39, 4, 40, 41, 42, 43, 44, 45] (by decide +kernel) (by decide +kernel)
set_option maxRecDepth 20000 in
theorem gX5_digest_X5_waits : GoodIn wsX5_digest (wsV RX5 126 RX5 yX5_waits wsX5_waits) := goodIn_app (goodIn_of _ (by decide +kernel)) ggX5_digest_X5_waits
theorem dX5_digest_0 : decode cX5_digest 0 = .ok (.aload_n 0, 1) := by decide +kernel
theorem dX5_digest_1 : decode cX5_digest 1 = .ok (.iconst 0, 1) := by decide +kernel
theorem dX5_digest_2 : decode cX5_digest 2 = .ok (.putfield 19, 3) := by decide +kernel
theorem dX5_digest_5 : decode cX5_digest 5 = .ok (.aload_n 0, 1) := by decide +kernel
theorem dX5_digest_6 : decode cX5_digest 6 = .ok (.ldc2_w 138, 3) := by decide +kernel
theorem dX5_digest_9 : decode cX5_digest 9 = .ok (.putfield 131, 3) := by decide +kernel
theorem dX5_digest_12 : decode cX5_digest 12 = .ok (.aload_n 0, 1) := by decide +kernel
theorem dX5_digest_13 : decode cX5_digest 13 = .ok (.aload_n 0, 1) := by decide +kernel
theorem dX5_digest_14 : decode cX5_digest 14 = .ok (.getfield 7, 3) := by decide +kernel
theorem dX5_digest_17 : decode cX5_digest 17 = .ok (.iconst 1, 1) := by decide +kernel
theorem dX5_digest_18 : decode cX5_digest 18 = .ok (.iaload, 1) := by decide +kernel
theorem dX5_digest_19 : decode cX5_digest 19 = .ok (.invokevirtual 135, 3) := by decide +kernel
theorem dX5_digest_22 : decode cX5_digest 22 = .ok (.aload_n 0, 1) := by decide +kernel
theorem dX5_digest_23 : decode cX5_digest 23 = .ok (.aload_n 0, 1) := by decide +kernel
theorem dX5_digest_24 : decode cX5_digest 24 = .ok (.getfield 7, 3) := by decide +kernel
theorem dX5_digest_27 : decode cX5_digest 27 = .ok (.iconst 0, 1) := by decide +kernel
theorem dX5_digest_28 : decode cX5_digest 28 = .ok (.iaload, 1) := by decide +kernel
theorem dX5_digest_29 : decode cX5_digest 29 = .ok (.invokevirtual 135, 3) := by decide +kernel
theorem dX5_digest_32 : decode cX5_digest 32 = .ok (.aload_n 0, 1) := by decide +kernel
theorem dX5_digest_33 : decode cX5_digest 33 = .ok (.aload_n 0, 1) := by decide +kernel
theorem dX5_digest_34 : decode cX5_digest 34 = .ok (.getfield 7, 3) := by decide +kernel
theorem dX5_digest_37 : decode cX5_digest 37 = .ok (.iconst 2, 1) := by decide +kernel
theorem dX5_digest_38 : decode cX5_digest 38 = .ok (.iaload, 1) := by decide +kernel
theorem dX5_digest_39 : decode cX5_digest 39 = .ok (.invokevirtual 135, 3) := by decide +kernel
theorem dX5_digest_42 : decode cX5_digest 42 = .ok (.aload_n 0, 1) := by decide +kernel
theorem dX5_digest_43 : decode cX5_digest 43 = .ok (.aload_n 0, 1) := by decide +kernel
theorem dX5_digest_44 : decode cX5_digest 44 = .ok (.getfield 7, 3) := by decide +kernel
theorem dX5_digest_47 : decode cX5_digest 47 = .ok (.iconst 3, 1) := by decide +kernel
theorem dX5_digest_48 : decode cX5_digest 48 = .ok (.iaload, 1) := by decide +kernel
theorem dX5_digest_49 : decode cX5_digest 49 = .ok (.invokevirtual 135, 3) := by decide +kernel
theorem dX5_digest_52 : decode cX5_digest 52 = .ok (.aload_n 0, 1) := by decide +kernel
theorem dX5_digest_53 : decode cX5_digest 53 = .ok (.invokevirtual 140, 3) := by decide +kernel
theorem dX5_digest_56 : decode cX5_digest 56 = .ok (.aload_n 0, 1) := by decide +kernel
theorem dX5_digest_57 : decode cX5_digest 57 = .ok (.invokevirtual 143, 3) := by decide +kernel
theorem dX5_digest_60 : decode cX5_digest 60 = .ok (.aload_n 0, 1) := by decide +kernel
theorem dX5_digest_61 : decode cX5_digest 61 = .ok (.aload_n 0, 1) := by decide +kernel
theorem dX5_digest_62 : decode cX5_digest 62 = .ok (.getfield 7, 3) := by decide +kernel
theorem dX5_digest_65 : decode cX5_digest 65 = .ok (.bipush 6, 2) := by decide +kernel
theorem dX5_digest_67 : decode cX5_digest 67 = .ok (.iaload, 1) := by decide +kernel
theorem dX5_digest_68 : decode cX5_digest 68 = .ok (.invokevirtual 135, 3) := by decide +kernel
theorem dX5_digest_71 : decode cX5_digest 71 = .ok (.aload_n 0, 1) := by decide +kernel
theorem dX5_digest_72 : decode cX5_digest 72 = .ok (.aload_n 0, 1) := by decide +kernel
theorem dX5_digest_73 : decode cX5_digest 73 = .ok (.getfield 7, 3) := by decide +kernel
theorem dX5_digest_76 : decode cX5_digest 76 = .ok (.bipush 7, 2) := by decide +kernel
theorem dX5_digest_78 : decode cX5_digest 78 = .ok (.iaload, 1) := by decide +kernel
theorem dX5_digest_79 : decode cX5_digest 79 = .ok (.invokevirtual 135, 3) := by decide +kernel
theorem dX5_digest_82 : decode cX5_digest 82 = .ok (.aload_n 0, 1) := by decide +kernel
theorem dX5_digest_83 : decode cX5_digest 83 = .ok (.aload_n 0, 1) := by decide +kernel
theorem dX5_digest_84 : decode cX5_digest 84 = .ok (.invokevirtual 126, 3) := by decide +kernel
theorem dX5_digest_87 : decode cX5_digest 87 = .ok (.invokevirtual 135, 3) := by decide +kernel
theorem dX5_digest_90 : decode cX5_digest 90 = .ok (.aload_n 0, 1) := by decide +kernel
theorem dX5_digest_91 : decode cX5_digest 91 = .ok (.aload_n 0, 1) := by decide +kernel
theorem dX5_digest_92 : decode cX5_digest 92 = .ok (.getfield 7, 3) := by decide +kernel
theorem dX5_digest_95 : decode cX5_digest 95 = .ok (.bipush 8, 2) := by decide +kernel
theorem dX5_digest_97 : decode cX5_digest 97 = .ok (.iaload, 1) := by decide +kernel
theorem dX5_digest_98 : decode cX5_digest 98 = .ok (.invokevirtual 135, 3) := by decide +kernel
theorem dX5_digest_101 : decode cX5_digest 101 = .ok (.aload_n 0, 1) := by decide +kernel
theorem dX5_digest_102 : decode cX5_digest 102 = .ok (.aload_n 0, 1) := by decide +kernel
theorem dX5_digest_103 : decode cX5_digest 103 = .ok (.getfield 27, 3) := by decide +kernel
theorem dX5_digest_106 : decode cX5_digest 106 = .ok (.invokevirtual 135, 3) := by decide +kernel
theorem dX5_digest_109 : decode cX5_digest 109 = .ok (.aload_n 0, 1) := by decide +kernel
theorem dX5_digest_110 : decode cX5_digest 110 = .ok (.getfield 131, 3) := by decide +kernel
theorem dX5_digest_113 : decode cX5_digest 113 = .ok (.lreturn, 1) := by decide +kernel
theorem dJ9_min_7cf53_0 : decode cJ9_min_7cf53 0 = .ok (.iload_n 0, 1) := by decide +kernel
theorem dJ9_min_7cf53_1 : decode cJ9_min_7cf53 1 = .ok (.iload_n 1, 1) := by decide +kernel
theorem dJ9_min_7cf53_2 : decode cJ9_min_7cf53 2 = .ok (.if_icmp .gt 7, 3) := by decide +kernel
theorem dJ9_min_7cf53_5 : decode cJ9_min_7cf53 5 = .ok (.iload_n 0, 1) := by decide +kernel
theorem dJ9_min_7cf53_6 : decode cJ9_min_7cf53 6 = .ok (.goto 4, 3) := by decide +kernel
theorem dJ9_min_7cf53_9 : decode cJ9_min_7cf53 9 = .ok (.iload_n 1, 1) := by decide +kernel
theorem dJ9_min_7cf53_10 : decode cJ9_min_7cf53 10 = .ok (.ireturn, 1) := by decide +kernel
set_option maxRecDepth 20000 in
theorem ggL_addServer_X4_addServer : GoodIn wsL_addServer wsX4_addServer := goodIn_ca (goodIn_r _ [6, 7, 8, 9, 10, 11, 12, 13, 5, 14, 15, 16, 17, 18, 19, 20, 21, 22, 23, 24, 25, 26, 27, 28, 29, 30, 31, 32, 33, 34, 35, 36, 37, 38, 39, 40, 41, 42, 43, 44, 45, 46, 47, 48, 49, 50, 51, 52, 53, 54, 55, 56, 57, 58, 59, 60, 61, 62, 63, 64, 65, 66, 67, 68, 69, 70, 71, 72, 73, 74, 75, 76, 77, 78, 79, 80, 81, 82, 83, 84, 85, 86, 87, 88, 89, 90, 91, 92, 93, 94, 95, 96, 97, 98, 99, 100, 101, 102, 103, 104, 105, 106, 107, 108, 109, 110, 111, 112, 113, 114, 115, 116, 117, 118, 119, 120, 121, 122, 123, 124, 125, 126, 127, 128, 129, 130, 131, 132, 133, 134, 135, 136, 137, 138, 139, 140, 141, 142, 143] (by decide +kernel) (by decide +kernel)) (goodIn_sub (fun _ h => List.mem_cons_of_mem _ (List.mem_append_right _ h)) (by decide +kernel))
set_option maxRecDepth 20000 in
theorem gL_addServer_X4_addServer : GoodIn wsL_addServer (wsV RL 7 RX4 yX4_addServer wsX4_addServer) := goodIn_app (goodIn_of _ (by decide +kernel)) ggL_addServer_X4_addServer
theorem dL_addServer_0 : decode cL_addServer 0 = .ok (.aload_n 1, 1) := by decide +kernel
theorem dL_addServer_1 : decode cL_addServer 1 = .ok (.iconst 0, 1) := by decide +kernel
theorem dL_addServer_2 : decode cL_addServer 2 = .ok (.aload_n 0, 1) := by decide +kernel
theorem dL_addServer_3 : decode cL_addServer 3 = .ok (.invokevirtual 7, 3) := by decide +kernel
theorem dL_addServer_6 : decode cL_addServer 6 = .ok (.i2l, 1) := by decide +kernel
theorem dL_addServer_7 : decode cL_addServer 7 = .ok (.lastore, 1) := by decide +kernel
theorem dL_addServer_8 : decode cL_addServer 8 = .ok (.goto 6, 3) := by decide +kernel
theorem dL_addServer_11 : decode cL_addServer 11 = .ok (.astore_n 2, 1) := by decide +kernel
theorem dL_addServer_12 : decode cL_addServer 12 = .ok (.iconst 1, 1) := by decide +kernel
theorem dL_addServer_13 : decode cL_addServer 13 = .ok (.ireturn, 1) := by decide +kernel
theorem dL_addServer_14 : decode cL_addServer 14 = .ok (.iconst 0, 1) := by decide +kernel
theorem dL_addServer_15 : decode cL_addServer 15 = .ok (.ireturn, 1) := by decide +kernel
set_option maxRecDepth 20000 in
theorem ggL_addDispatcher_X4_addDispatcher : GoodIn wsL_addDispatcher wsX4_addDispatcher := goodIn_ca (goodIn_ca (goodIn_r _ [7, 8, 9, 10, 11, 12, 13, 6, 14, 15, 16, 17, 18, 19, 20, 21, 22, 23, 24, 25, 26, 27, 28, 29, 30, 31, 32, 33, 34, 35, 36, 37, 38, 39, 40, 41, 42, 43, 44, 45, 46, 47, 48, 49, 50, 51, 52, 53, 54, 55, 56, 57, 58, 59, 60, 61, 62, 63, 64, 65, 66, 67, 68, 69, 70, 71, 72, 73, 74, 75, 76, 77, 78, 79, 80, 81, 82, 83, 84, 85, 86, 87, 88, 89, 90, 91, 92, 93, 94, 95, 96, 97, 98, 99, 100, 101, 102, 103, 104, 105, 106, 107, 108, 109, 110, 111, 112, 113, 114, 115, 116, 117, 118, 119, 120, 121, 122, 123, 124, 125, 126, 127, 128] (by decide +kernel) (by decide +kernel)) (goodIn_sub (fun _ h => List.mem_cons_of_mem _ (List.mem_append_left _ (List.mem_append_right _ h))) (by decide +kernel))) (goodIn_sub (fun _ h => List.mem_cons_of_mem _ (List.mem_append_right _ h)) (by decide +kernel))
set_option maxRecDepth 20000 in
theorem gL_addDispatcher_X4_addDispatcher : GoodIn wsL_addDispatcher (wsV RL 15 RX4 yX4_addDispatcher wsX4_addDispatcher) := goodIn_app (goodIn_of _ (by decide +kernel)) ggL_addDispatcher_X4_addDispatcher
theorem dL_addDispatcher_0 : decode cL_addDispatcher 0 = .ok (.aload_n 2, 1) := by decide +kernel
theorem dL_addDispatcher_1 : decode cL_addDispatcher 1 = .ok (.iconst 0, 1) := by decide +kernel
theorem dL_addDispatcher_2 : decode cL_addDispatcher 2 = .ok (.aload_n 0, 1) := by decide +kernel
theorem dL_addDispatcher_3 : decode cL_addDispatcher 3 = .ok (.iload_n 1, 1) := by decide +kernel
theorem dL_addDispatcher_4 : decode cL_addDispatcher 4 = .ok (.invokevirtual 15, 3) := by decide +kernel
theorem dL_addDispatcher_7 : decode cL_addDispatcher 7 = .ok (.i2l, 1) := by decide +kernel
theorem dL_addDispatcher_8 : decode cL_addDispatcher 8 = .ok (.lastore, 1) := by decide +kernel
theorem dL_addDispatcher_9 : decode cL_addDispatcher 9 = .ok (.goto 9, 3) := by decide +kernel
theorem dL_addDispatcher_12 : decode cL_addDispatcher 12 = .ok (.astore_n 3, 1) := by decide +kernel
theorem dL_addDispatcher_13 : decode cL_addDispatcher 13 = .ok (.iconst 1, 1) := by decide +kernel
theorem dL_addDispatcher_14 : decode cL_addDispatcher 14 = .ok (.ireturn, 1) := by decide +kernel
theorem dL_addDispatcher_15 : decode cL_addDispatcher 15 = .ok (.astore_n 3, 1) := by decide +kernel
theorem dL_addDispatcher_16 : decode cL_addDispatcher 16 = .ok (.iconst 2, 1) := by decide +kernel
theorem dL_addDispatcher_17 : decode cL_addDispatcher 17 = .ok (.ireturn, 1) := by decide +kernel
theorem dL_addDispatcher_18 : decode cL_addDispatcher 18 = .ok (.iconst 0, 1) := by decide +kernel
theorem dL_addDispatcher_19 : decode cL_addDispatcher 19 = .ok (.ireturn, 1) := by decide +kernel
set_option maxRecDepth 20000 in
theorem ggL_setPolicy_X4_setPolicy : GoodIn wsL_setPolicy wsX4_setPolicy := goodIn_ca (goodIn_r _ [6, 7, 8, 9, 10, 11, 12, 5, 13, 14, 15, 16, 17, 18, 19, 20, 21, 22, 23, 24, 25, 26, 27, 28, 29, 30, 31, 32, 33, 34, 35, 36, 37, 38, 39, 40, 41, 42, 43, 44, 45, 46, 47, 48, 49, 50, 51, 52, 53, 54, 55, 56, 57, 58, 59, 60, 61, 62, 63, 64, 65, 66, 67, 68, 69, 70, 71, 72, 73, 74, 75, 76, 77, 78, 79, 80, 81, 82, 83, 84, 85, 86, 87, 88, 89, 90, 91, 92, 93, 94, 95, 96, 97, 98, 99, 100, 101, 102, 103, 104, 105, 106, 107, 108, 109, 110, 111, 112, 113, 114, 115, 116, 117, 118, 119, 120, 121, 122, 123, 124, 125, 126] (by decide +kernel) (by decide +kernel)) (goodIn_sub (fun _ h => List.mem_cons_of_mem _ (List.mem_append_right _ h)) (by decide +kernel))
set_option maxRecDepth 20000 in
theorem gL_setPolicy_X4_setPolicy : GoodIn wsL_setPolicy (wsV RL 21 RX4 yX4_setPolicy wsX4_setPolicy) := goodIn_app (goodIn_of _ (by decide +kernel)) ggL_setPolicy_X4_setPolicy
theorem dL_setPolicy_0 : decode cL_setPolicy 0 = .ok (.aload_n 3, 1) := by decide +kernel
theorem dL_setPolicy_1 : decode cL_setPolicy 1 = .ok (.iconst 0, 1) := by decide +kernel
theorem dL_setPolicy_2 : decode cL_setPolicy 2 = .ok (.aload_n 0, 1) := by decide +kernel
theorem dL_setPolicy_3 : decode cL_setPolicy 3 = .ok (.iload_n 1, 1) := by decide +kernel
theorem dL_setPolicy_4 : decode cL_setPolicy 4 = .ok (.iload_n 2, 1) := by decide +kernel
theorem dL_setPolicy_5 : decode cL_setPolicy 5 = .ok (.invokevirtual 21, 3) := by decide +kernel
theorem dL_setPolicy_8 : decode cL_setPolicy 8 = .ok (.i2l, 1) := by decide +kernel
theorem dL_setPolicy_9 : decode cL_setPolicy 9 = .ok (.lastore, 1) := by decide +kernel
theorem dL_setPolicy_10 : decode cL_setPolicy 10 = .ok (.goto 7, 3) := by decide +kernel
theorem dL_setPolicy_13 : decode cL_setPolicy 13 = .ok (.astore 4, 2) := by decide +kernel
theorem dL_setPolicy_15 : decode cL_setPolicy 15 = .ok (.iconst 1, 1) := by decide +kernel
theorem dL_setPolicy_16 : decode cL_setPolicy 16 = .ok (.ireturn, 1) := by decide +kernel
theorem dL_setPolicy_17 : decode cL_setPolicy 17 = .ok (.iconst 0, 1) := by decide +kernel
theorem dL_setPolicy_18 : decode cL_setPolicy 18 = .ok (.ireturn, 1) := by decide +kernel
set_option maxRecDepth 20000 in
theorem ggL_setJoinMode_X4_setJoinMode : GoodIn wsL_setJoinMode wsX4_setJoinMode := goodIn_ca (goodIn_r _ [6, 7, 8, 9, 10, 5, 11, 12, 13, 14, 15, 16, 17, 18, 19, 20, 21, 22, 23, 24, 25, 26, 27, 28, 29, 30, 31, 32, 33, 34, 35, 36, 37, 38, 39, 40, 41, 42, 43, 44, 45, 46, 47, 48, 49, 50, 51, 52, 53, 54, 55, 56, 57, 58, 59, 60, 61, 62, 63, 64, 65, 66, 67, 68, 69, 70, 71, 72, 73, 74, 75, 76, 77, 78, 79, 80, 81, 82, 83, 84, 85, 86, 87, 88, 89, 90, 91, 92, 93, 94, 95, 96, 97, 98, 99, 100, 101, 102, 103, 104, 105, 106, 107, 108, 109, 110, 111, 112, 113, 114, 115, 116, 117, 118, 119, 120] (by decide +kernel) (by decide +kernel)) (goodIn_sub (fun _ h => List.mem_cons_of_mem _ (List.mem_append_right _ h)) (by decide +kernel))
set_option maxRecDepth 20000 in
theorem gL_setJoinMode_X4_setJoinMode : GoodIn wsL_setJoinMode (wsV RL 25 RX4 yX4_setJoinMode wsX4_setJoinMode) := goodIn_app (goodIn_of _ (by decide +kernel)) ggL_setJoinMode_X4_setJoinMode
theorem dL_setJoinMode_0 : decode cL_setJoinMode 0 = .ok (.aload_n 2, 1) := by decide +kernel
theorem dL_setJoinMode_1 : decode cL_setJoinMode 1 = .ok (.iconst 0, 1) := by decide +kernel
theorem dL_setJoinMode_2 : decode cL_setJoinMode 2 = .ok (.aload_n 0, 1) := by decide +kernel
theorem dL_setJoinMode_3 : decode cL_setJoinMode 3 = .ok (.iload_n 1, 1) := by decide +kernel
theorem dL_setJoinMode_4 : decode cL_setJoinMode 4 = .ok (.invokevirtual 25, 3) := by decide +kernel
theorem dL_setJoinMode_7 : decode cL_setJoinMode 7 = .ok (.i2l, 1) := by decide +kernel
theorem dL_setJoinMode_8 : decode cL_setJoinMode 8 = .ok (.lastore, 1) := by decide +kernel
theorem dL_setJoinMode_9 : decode cL_setJoinMode 9 = .ok (.goto 6, 3) := by decide +kernel
theorem dL_setJoinMode_12 : decode cL_setJoinMode 12 = .ok (.astore_n 3, 1) := by decide +kernel
theorem dL_setJoinMode_13 : decode cL_setJoinMode 13 = .ok (.iconst 1, 1) := by decide +kernel
theorem dL_setJoinMode_14 : decode cL_setJoinMode 14 = .ok (.ireturn, 1) := by decide +kernel
theorem dL_setJoinMode_15 : decode cL_setJoinMode 15 = .ok (.iconst 0, 1) := by decide +kernel
theorem dL_setJoinMode_16 : decode cL_setJoinMode 16 = .ok (.ireturn, 1) := by decide +kernel
set_option maxRecDepth 20000 in
theorem ggL_setReportPeriod_X4_setReportPeriod : GoodIn wsL_setReportPeriod wsX4_setReportPeriod := goodIn_ca (goodIn_r _ [6, 7, 8, 9, 10, 5, 11, 12, 13, 14, 15, 16, 17, 18, 19, 20, 21, 22, 23, 24, 25, 26, 27, 28, 29, 30, 31, 32, 33, 34, 35, 36, 37, 38, 39, 40, 41, 42, 43, 44, 45, 46, 47, 48, 49, 50, 51, 52, 53, 54, 55, 56, 57, 58, 59, 60, 61, 62, 63, 64, 65, 66, 67, 68, 69, 70, 71, 72, 73, 74, 75, 76, 77, 78, 79, 80, 81, 82, 83, 84, 85, 86, 87, 88, 89, 90, 91, 92, 93, 94, 95, 96, 97, 98, 99, 100, 101, 102, 103, 104, 105, 106, 107, 108, 109, 110, 111, 112, 113, 114, 115, 116, 117, 118, 119, 120] (by decide +kernel) (by decide +kernel)) (goodIn_sub (fun _ h => List.mem_cons_of_mem _ (List.mem_append_right _ h)) (by decide +kernel))
set_option maxRecDepth 20000 in
theorem gL_setReportPeriod_X4_setReportPeriod : GoodIn wsL_setReportPeriod (wsV RL 28 RX4 yX4_setReportPeriod wsX4_setReportPeriod) := goodIn_app (goodIn_of _ (by decide +kernel)) ggL_setReportPeriod_X4_setReportPeriod
theorem dL_setReportPeriod_0 : decode cL_setReportPeriod 0 = .ok (.aload_n 2, 1) := by decide +kernel
theorem dL_setReportPeriod_1 : decode cL_setReportPeriod 1 = .ok (.iconst 0, 1) := by decide +kernel
theorem dL_setReportPeriod_2 : decode cL_setReportPeriod 2 = .ok (.aload_n 0, 1) := by decide +kernel
theorem dL_setReportPeriod_3 : decode cL_setReportPeriod 3 = .ok (.iload_n 1, 1) := by decide +kernel
theorem dL_setReportPeriod_4 : decode cL_setReportPeriod 4 = .ok (.invokevirtual 28, 3) := by decide +kernel
theorem dL_setReportPeriod_7 : decode cL_setReportPeriod 7 = .ok (.i2l, 1) := by decide +kernel
theorem dL_setReportPeriod_8 : decode cL_setReportPeriod 8 = .ok (.lastore, 1) := by decide +kernel
theorem dL_setReportPeriod_9 : decode cL_setReportPeriod 9 = .ok (.goto 6, 3) := by decide +kernel
theorem dL_setReportPeriod_12 : decode cL_setReportPeriod 12 = .ok (.astore_n 3, 1) := by decide +kernel
theorem dL_setReportPeriod_13 : decode cL_setReportPeriod 13 = .ok (.iconst 1, 1) := by decide +kernel
theorem dL_setReportPeriod_14 : decode cL_setReportPeriod 14 = .ok (.ireturn, 1) := by decide +kernel
theorem dL_setReportPeriod_15 : decode cL_setReportPeriod 15 = .ok (.iconst 0, 1) := by decide +kernel
theorem dL_setReportPeriod_16 : decode cL_setReportPeriod 16 = .ok (.ireturn, 1) := by decide +kernel
set_option maxRecDepth 20000 in
theorem ggL_setRandom_X4_setRandom : GoodIn wsL_setRandom wsX4_setRandom := goodIn_ca (goodIn_r _ [6, 7, 8, 9, 10, 11, 5, 12, 13, 14, 15, 16, 17, 18, 19, 20, 21, 22, 23, 24, 25, 26, 27, 28, 29, 30, 31, 32, 33, 34, 35, 36, 37, 38, 39, 40, 41, 42, 43, 44, 45, 46, 47, 48, 49, 50, 51, 52, 53, 54, 55, 56, 57, 58, 59, 60, 61, 62, 63, 64, 65, 66, 67, 68, 69, 70, 71, 72, 73, 74, 75, 76, 77, 78, 79, 80, 81, 82, 83, 84, 85, 86, 87, 88, 89, 90, 91, 92, 93, 94, 95, 96, 97, 98, 99, 100, 101, 102, 103, 104, 105, 106, 107, 108, 109, 110, 111, 112, 113, 114, 115, 116, 117, 118, 119, 120, 121] (by decide +kernel) (by decide +kernel)) (goodIn_sub (fun _ h => List.mem_cons_of_mem _ (List.mem_append_right _ h)) (by decide +kernel))
set_option maxRecDepth 20000 in
theorem gL_setRandom_X4_setRandom : GoodIn wsL_setRandom (wsV RL 31 RX4 yX4_setRandom wsX4_setRandom) := goodIn_app (goodIn_of _ (by decide +kernel)) ggL_setRandom_X4_setRandom
theorem dL_setRandom_0 : decode cL_setRandom 0 = .ok (.aload_n 2, 1) := by decide +kernel
theorem dL_setRandom_1 : decode cL_setRandom 1 = .ok (.iconst 0, 1) := by decide +kernel
theorem dL_setRandom_2 : decode cL_setRandom 2 = .ok (.aload_n 0, 1) := by decide +kernel
theorem dL_setRandom_3 : decode cL_setRandom 3 = .ok (.iload_n 1, 1) := by decide +kernel
theorem dL_setRandom_4 : decode cL_setRandom 4 = .ok (.invokevirtual 31, 3) := by decide +kernel
theorem dL_setRandom_7 : decode cL_setRandom 7 = .ok (.i2l, 1) := by decide +kernel
theorem dL_setRandom_8 : decode cL_setRandom 8 = .ok (.lastore, 1) := by decide +kernel
theorem dL_setRandom_9 : decode cL_setRandom 9 = .ok (.goto 6, 3) := by decide +kernel
theorem dL_setRandom_12 : decode cL_setRandom 12 = .ok (.astore_n 3, 1) := by decide +kernel
theorem dL_setRandom_13 : decode cL_setRandom 13 = .ok (.iconst 1, 1) := by decide +kernel
theorem dL_setRandom_14 : decode cL_setRandom 14 = .ok (.ireturn, 1) := by decide +kernel
theorem dL_setRandom_15 : decode cL_setRandom 15 = .ok (.iconst 0, 1) := by decide +kernel
theorem dL_setRandom_16 : decode cL_setRandom 16 = .ok (.ireturn, 1) := by decide +kernel
set_option maxRecDepth 20000 in
theorem ggL_setUp_X4_setUp : GoodIn wsL_setUp wsX4_setUp := goodIn_ca (goodIn_r _ [6, 7, 8, 9, 10, 5, 11, 12, 13, 14, 15, 16, 17, 18, 19, 20, 21, 22, 23, 24, 25, 26, 27, 28, 29, 30, 31, 32, 33, 34, 35, 36, 37, 38, 39, 40, 41, 42, 43, 44, 45, 46, 47, 48, 49, 50, 51, 52, 53, 54, 55, 56, 57, 58, 59, 60, 61, 62, 63, 64, 65, 66, 67, 68, 69, 70, 71, 72, 73, 74, 75, 76, 77, 78, 79, 80, 81, 82, 83, 84, 85, 86, 87, 88, 89, 90, 91, 92, 93, 94, 95, 96, 97, 98, 99, 100, 101, 102, 103, 104, 105, 106, 107, 108, 109, 110, 111, 112, 113, 114, 115, 116, 117, 118, 119, 120, 121, 122, 123, 124, 125, 126, 127, 128, 129, 130, 131, 132, 133, 134, 135, 136, 137, 138, 139, 140, 141, 142, 143, 144, 145, 146, 147, 148, 149, 150, 151, 152, 153, 154, 155, 156] (by decide +kernel) (by decide +kernel)) (goodIn_sub (fun _ h => List.mem_cons_of_mem _ (List.mem_append_right _ h)) (by decide +kernel))
set_option maxRecDepth 20000 in
theorem gL_setUp_X4_setUp : GoodIn wsL_setUp (wsV RL 34 RX4 yX4_setUp wsX4_setUp) := goodIn_app (goodIn_of _ (by decide +kernel)) ggL_setUp_X4_setUp
theorem dL_setUp_0 : decode cL_setUp 0 = .ok (.aload_n 3, 1) := by decide +kernel
theorem dL_setUp_1 : decode cL_setUp 1 = .ok (.iconst 0, 1) := by decide +kernel
theorem dL_setUp_2 : decode cL_setUp 2 = .ok (.aload_n 0, 1) := by decide +kernel
theorem dL_setUp_3 : decode cL_setUp 3 = .ok (.iload_n 1, 1) := by decide +kernel
theorem dL_setUp_4 : decode cL_setUp 4 = .ok (.iload_n 2, 1) := by decide +kernel
theorem dL_setUp_5 : decode cL_setUp 5 = .ok (.invokevirtual 34, 3) := by decide +kernel
theorem dL_setUp_8 : decode cL_setUp 8 = .ok (.ifCond .eq 7, 3) := by decide +kernel
theorem dL_setUp_11 : decode cL_setUp 11 = .ok (.lconst 1, 1) := by decide +kernel
theorem dL_setUp_12 : decode cL_setUp 12 = .ok (.goto 4, 3) := by decide +kernel
theorem dL_setUp_15 : decode cL_setUp 15 = .ok (.lconst 0, 1) := by decide +kernel
theorem dL_setUp_16 : decode cL_setUp 16 = .ok (.lastore, 1) := by decide +kernel
theorem dL_setUp_17 : decode cL_setUp 17 = .ok (.goto 7, 3) := by decide +kernel
theorem dL_setUp_20 : decode cL_setUp 20 = .ok (.astore 4, 2) := by decide +kernel
theorem dL_setUp_22 : decode cL_setUp 22 = .ok (.iconst 1, 1) := by decide +kernel
theorem dL_setUp_23 : decode cL_setUp 23 = .ok (.ireturn, 1) := by decide +kernel
theorem dL_setUp_24 : decode cL_setUp 24 = .ok (.iconst 0, 1) := by decide +kernel
theorem dL_setUp_25 : decode cL_setUp 25 = .ok (.ireturn, 1) := by decide +kernel
set_option maxRecDepth 20000 in
theorem ggL_submit_X4_submit : GoodIn wsL_submit wsX4_submit := goodIn_ca (goodIn_ca (goodIn_r _ [7, 8, 9, 10, 11, 12, 13, 14, 15, 6, 16, 17, 18, 19, 20, 21, 22, 23, 24, 25, 26, 27, 28, 29, 30, 31, 32, 33, 34, 35, 36, 37, 38, 39, 40, 41, 42, 43, 44, 45, 46, 47, 48, 49, 50, 51, 52, 53, 54, 55, 56, 57, 58, 59, 60, 61, 62, 63, 64, 65, 66, 67, 68, 69, 70, 71, 72, 73, 74, 75, 76, 77, 78, 79, 80, 81, 82, 83, 84, 85, 86, 87, 88, 89, 90, 91, 92, 93, 94, 95, 96, 97, 98, 99, 100, 101, 102, 103, 104, 105, 106, 107, 108, 109, 110, 111, 112, 113, 114, 115, 116, 117, 118, 119, 120, 121, 122, 123, 124, 125, 126, 127, 128, 129, 130, 131, 132, 133, 134, 135, 136, 137, 138, 139, 140, 141, 142, 143, 144, 145, 146, 147, 148, 149, 150, 151, 152, 153, 154, 155, 156, 157, 158, 159, 160, 161, 162, 163, 164, 165, 166, 167, 168, 169, 170, 171, 172, 173, 174, 175, 176, 177, 178, 179, 180, 181, 182, 183, 184, 185, 186, 187, 188, 189, 190, 191, 192, 193, 194, 195, 196, 197, 198, 199, 200, 201, 202, 203, 204, 205, 206] (by decide +kernel) (by decide +kernel)) (goodIn_sub (fun _ h => List.mem_cons_of_mem _ (List.mem_append_left _ (List.mem_append_right _ h))) (by decide +kernel))) (goodIn_sub (fun _ h => List.mem_cons_of_mem _ (List.mem_append_right _ h)) (by decide +kernel))
set_option maxRecDepth 20000 in
theorem gL_submit_X4_submit : GoodIn wsL_submit (wsV RL 38 RX4 yX4_submit wsX4_submit) := goodIn_app (goodIn_of _ (by decide +kernel)) ggL_submit_X4_submit
theorem dL_submit_0 : decode cL_submit 0 = .ok (.aload_n 3, 1) := by decide +kernel
theorem dL_submit_1 : decode cL_submit 1 = .ok (.iconst 0, 1) := by decide +kernel
theorem dL_submit_2 : decode cL_submit 2 = .ok (.aload_n 0, 1) := by decide +kernel
theorem dL_submit_3 : decode cL_submit 3 = .ok (.iload_n 1, 1) := by decide +kernel
theorem dL_submit_4 : decode cL_submit 4 = .ok (.iload_n 2, 1) := by decide +kernel
theorem dL_submit_5 : decode cL_submit 5 = .ok (.invokevirtual 38, 3) := by decide +kernel
theorem dL_submit_8 : decode cL_submit 8 = .ok (.i2l, 1) := by decide +kernel
theorem dL_submit_9 : decode cL_submit 9 = .ok (.lastore, 1) := by decide +kernel
theorem dL_submit_10 : decode cL_submit 10 = .ok (.goto 11, 3) := by decide +kernel
theorem dL_submit_13 : decode cL_submit 13 = .ok (.astore 4, 2) := by decide +kernel
theorem dL_submit_15 : decode cL_submit 15 = .ok (.iconst 1, 1) := by decide +kernel
theorem dL_submit_16 : decode cL_submit 16 = .ok (.ireturn, 1) := by decide +kernel
theorem dL_submit_17 : decode cL_submit 17 = .ok (.astore 4, 2) := by decide +kernel
theorem dL_submit_19 : decode cL_submit 19 = .ok (.iconst 2, 1) := by decide +kernel
theorem dL_submit_20 : decode cL_submit 20 = .ok (.ireturn, 1) := by decide +kernel
theorem dL_submit_21 : decode cL_submit 21 = .ok (.iconst 0, 1) := by decide +kernel
theorem dL_submit_22 : decode cL_submit 22 = .ok (.ireturn, 1) := by decide +kernel
set_option maxRecDepth 20000 in
theorem ggL_tick_X4_tick : GoodIn wsL_tick wsX4_tick := goodIn_ca (goodIn_r _ [6, 7, 8, 9, 10, 11, 5, 12, 13, 14, 15, 16, 17, 18, 19, 20, 21, 22, 23, 24, 25, 26, 27, 28, 29, 30, 31, 32, 33, 34, 35, 36, 37, 38, 39, 40, 41, 42, 43, 44, 45, 46, 47, 48, 49, 50, 51, 52, 53, 54, 55, 56, 57, 58, 59, 60, 61, 62, 63, 64, 65, 66, 67, 68, 69, 70, 71, 72, 73, 74, 75, 76, 77, 78, 79, 80, 81, 82, 83, 84, 85, 86, 87, 88, 89, 90, 91, 92, 93, 94, 95, 96, 97, 98, 99, 100, 101, 102, 103, 104, 105, 106, 107, 108, 109, 110, 111, 112, 113, 114, 115, 116, 117, 118, 119, 120, 121, 122, 123, 124, 125, 126, 127, 128, 129, 130, 131, 132, 133, 134, 135, 136, 137, 138, 139, 140, 141, 142, 143, 144, 145, 146, 147, 148, 149, 150, 151, 152, 153, 154, 155, 156, 157, 158, 159, 160, 161, 162, 163, 164, 165, 166, 167, 168, 169, 170, 171, 172, 173, 174, 175] (by decide +kernel) (by decide +kernel)) (goodIn_sub (fun _ h => List.mem_cons_of_mem _ (List.mem_append_right _ h)) (by decide +kernel))
set_option maxRecDepth 20000 in
theorem gL_tick_X4_tick : GoodIn wsL_tick (wsV RL 41 RX4 yX4_tick wsX4_tick) := goodIn_app (goodIn_of _ (by decide +kernel)) ggL_tick_X4_tick
theorem dL_tick_0 : decode cL_tick 0 = .ok (.aload_n 2, 1) := by decide +kernel
theorem dL_tick_1 : decode cL_tick 1 = .ok (.iconst 0, 1) := by decide +kernel
theorem dL_tick_2 : decode cL_tick 2 = .ok (.aload_n 0, 1) := by decide +kernel
theorem dL_tick_3 : decode cL_tick 3 = .ok (.iload_n 1, 1) := by decide +kernel
theorem dL_tick_4 : decode cL_tick 4 = .ok (.invokevirtual 41, 3) := by decide +kernel
theorem dL_tick_7 : decode cL_tick 7 = .ok (.i2l, 1) := by decide +kernel
theorem dL_tick_8 : decode cL_tick 8 = .ok (.lastore, 1) := by decide +kernel
theorem dL_tick_9 : decode cL_tick 9 = .ok (.goto 6, 3) := by decide +kernel
theorem dL_tick_12 : decode cL_tick 12 = .ok (.astore_n 3, 1) := by decide +kernel
theorem dL_tick_13 : decode cL_tick 13 = .ok (.iconst 1, 1) := by decide +kernel
theorem dL_tick_14 : decode cL_tick 14 = .ok (.ireturn, 1) := by decide +kernel
theorem dL_tick_15 : decode cL_tick 15 = .ok (.iconst 0, 1) := by decide +kernel
theorem dL_tick_16 : decode cL_tick 16 = .ok (.ireturn, 1) := by decide +kernel
set_option maxRecDepth 20000 in
theorem ggL_length_X4_length : GoodIn wsL_length wsX4_length := goodIn_ca (goodIn_r _ [6, 7, 8, 9, 10, 11, 12, 5, 13, 14, 15, 16, 17, 18, 19, 20, 21, 22, 23, 24, 25, 26, 27, 28, 29, 30, 31, 32, 33, 34, 35, 36] (by decide +kernel) (by decide +kernel)) (goodIn_sub (fun _ h => List.mem_cons_of_mem _ (List.mem_append_right _ h)) (by decide +kernel))
set_option maxRecDepth 20000 in
theorem gL_length_X4_length : GoodIn wsL_length (wsV RL 44 RX4 yX4_length wsX4_length) := goodIn_app (goodIn_of _ (by decide +kernel)) ggL_length_X4_length
theorem dL_length_0 : decode cL_length 0 = .ok (.aload_n 2, 1) := by decide +kernel
theorem dL_length_1 : decode cL_length 1 = .ok (.iconst 0, 1) := by decide +kernel
theorem dL_length_2 : decode cL_length 2 = .ok (.aload_n 0, 1) := by decide +kernel
theorem dL_length_3 : decode cL_length 3 = .ok (.iload_n 1, 1) := by decide +kernel
theorem dL_length_4 : decode cL_length 4 = .ok (.invokevirtual 44, 3) := by decide +kernel
theorem dL_length_7 : decode cL_length 7 = .ok (.i2l, 1) := by decide +kernel
theorem dL_length_8 : decode cL_length 8 = .ok (.lastore, 1) := by decide +kernel
theorem dL_length_9 : decode cL_length 9 = .ok (.goto 6, 3) := by decide +kernel
theorem dL_length_12 : decode cL_length 12 = .ok (.astore_n 3, 1) := by decide +kernel
theorem dL_length_13 : decode cL_length 13 = .ok (.iconst 1, 1) := by decide +kernel
theorem dL_length_14 : decode cL_length 14 = .ok (.ireturn, 1) := by decide +kernel
theorem dL_length_15 : decode cL_length 15 = .ok (.iconst 0, 1) := by decide +kernel
theorem dL_length_16 : decode cL_length 16 = .ok (.ireturn, 1) := by decide +kernel
set_option maxRecDepth 20000 in
theorem ggL_work_X4_work : GoodIn wsL_work wsX4_work := goodIn_ca (goodIn_r _ [6, 7, 8, 9, 10, 11, 12, 5, 13, 14, 15, 16, 17, 18, 19, 20, 21, 22, 23, 24, 25, 26, 27, 28, 29, 30, 31, 32, 33, 34, 35, 36] (by decide +kernel) (by decide +kernel)) (goodIn_sub (fun _ h => List.mem_cons_of_mem _ (List.mem_append_right _ h)) (by decide +kernel))
set_option maxRecDepth 20000 in
theorem gL_work_X4_work : GoodIn wsL_work (wsV RL 47 RX4 yX4_work wsX4_work) := goodIn_app (goodIn_of _ (by decide +kernel)) ggL_work_X4_work
theorem dL_work_0 : decode cL_work 0 = .ok (.aload_n 2, 1) := by decide +kernel
theorem dL_work_1 : decode cL_work 1 = .ok (.iconst 0, 1) := by decide +kernel
theorem dL_work_2 : decode cL_work 2 = .ok (.aload_n 0, 1) := by decide +kernel
theorem dL_work_3 : decode cL_work 3 = .ok (.iload_n 1, 1) := by decide +kernel
theorem dL_work_4 : decode cL_work 4 = .ok (.invokevirtual 47, 3) := by decide +kernel
theorem dL_work_7 : decode cL_work 7 = .ok (.i2l, 1) := by decide +kernel
theorem dL_work_8 : decode cL_work 8 = .ok (.lastore, 1) := by decide +kernel
theorem dL_work_9 : decode cL_work 9 = .ok (.goto 6, 3) := by decide +kernel
theorem dL_work_12 : decode cL_work 12 = .ok (.astore_n 3, 1) := by decide +kernel
theorem dL_work_13 : decode cL_work 13 = .ok (.iconst 1, 1) := by decide +kernel
theorem dL_work_14 : decode cL_work 14 = .ok (.ireturn, 1) := by decide +kernel
theorem dL_work_15 : decode cL_work 15 = .ok (.iconst 0, 1) := by decide +kernel
theorem dL_work_16 : decode cL_work 16 = .ok (.ireturn, 1) := by decide +kernel
set_option maxRecDepth 20000 in
theorem ggL_registeredAt_X4_registeredAt : GoodIn wsL_registeredAt wsX4_registeredAt := goodIn_ca (goodIn_r _ [6, 7, 8, 9, 10, 11, 12, 5, 13, 14, 15, 16, 17, 18, 19, 20, 21, 22, 23, 24, 25, 26, 27, 28, 29, 30, 31, 32, 33, 34, 35, 36] (by decide +kernel) (by decide +kernel)) (goodIn_sub (fun _ h => List.mem_cons_of_mem _ (List.mem_append_right _ h)) (by decide +kernel))
set_option maxRecDepth 20000 in
theorem gL_registeredAt_X4_registeredAt : GoodIn wsL_registeredAt (wsV RL 50 RX4 yX4_registeredAt wsX4_registeredAt) := goodIn_app (goodIn_of _ (by decide +kernel)) ggL_registeredAt_X4_registeredAt
theorem dL_registeredAt_0 : decode cL_registeredAt 0 = .ok (.aload_n 2, 1) := by decide +kernel
theorem dL_registeredAt_1 : decode cL_registeredAt 1 = .ok (.iconst 0, 1) := by decide +kernel
theorem dL_registeredAt_2 : decode cL_registeredAt 2 = .ok (.aload_n 0, 1) := by decide +kernel
theorem dL_registeredAt_3 : decode cL_registeredAt 3 = .ok (.iload_n 1, 1) := by decide +kernel
theorem dL_registeredAt_4 : decode cL_registeredAt 4 = .ok (.invokevirtual 50, 3) := by decide +kernel
theorem dL_registeredAt_7 : decode cL_registeredAt 7 = .ok (.i2l, 1) := by decide +kernel
theorem dL_registeredAt_8 : decode cL_registeredAt 8 = .ok (.lastore, 1) := by decide +kernel
theorem dL_registeredAt_9 : decode cL_registeredAt 9 = .ok (.goto 6, 3) := by decide +kernel
theorem dL_registeredAt_12 : decode cL_registeredAt 12 = .ok (.astore_n 3, 1) := by decide +kernel
theorem dL_registeredAt_13 : decode cL_registeredAt 13 = .ok (.iconst 1, 1) := by decide +kernel
theorem dL_registeredAt_14 : decode cL_registeredAt 14 = .ok (.ireturn, 1) := by decide +kernel
theorem dL_registeredAt_15 : decode cL_registeredAt 15 = .ok (.iconst 0, 1) := by decide +kernel
theorem dL_registeredAt_16 : decode cL_registeredAt 16 = .ok (.ireturn, 1) := by decide +kernel
set_option maxRecDepth 20000 in
theorem ggL_idleCount_X4_idleCount : GoodIn wsL_idleCount wsX4_idleCount := goodIn_ca (goodIn_r _ [6, 7, 8, 9, 10, 11, 12, 5, 13, 14, 15, 16, 17, 18, 19, 20, 21, 22, 23, 24, 25, 26, 27, 28, 29, 30, 31, 32, 33, 34, 35] (by decide +kernel) (by decide +kernel)) (goodIn_sub (fun _ h => List.mem_cons_of_mem _ (List.mem_append_right _ h)) (by decide +kernel))
set_option maxRecDepth 20000 in
theorem gL_idleCount_X4_idleCount : GoodIn wsL_idleCount (wsV RL 53 RX4 yX4_idleCount wsX4_idleCount) := goodIn_app (goodIn_of _ (by decide +kernel)) ggL_idleCount_X4_idleCount
theorem dL_idleCount_0 : decode cL_idleCount 0 = .ok (.aload_n 2, 1) := by decide +kernel
theorem dL_idleCount_1 : decode cL_idleCount 1 = .ok (.iconst 0, 1) := by decide +kernel
theorem dL_idleCount_2 : decode cL_idleCount 2 = .ok (.aload_n 0, 1) := by decide +kernel
theorem dL_idleCount_3 : decode cL_idleCount 3 = .ok (.iload_n 1, 1) := by decide +kernel
theorem dL_idleCount_4 : decode cL_idleCount 4 = .ok (.invokevirtual 53, 3) := by decide +kernel
theorem dL_idleCount_7 : decode cL_idleCount 7 = .ok (.i2l, 1) := by decide +kernel
theorem dL_idleCount_8 : decode cL_idleCount 8 = .ok (.lastore, 1) := by decide +kernel
theorem dL_idleCount_9 : decode cL_idleCount 9 = .ok (.goto 6, 3) := by decide +kernel
theorem dL_idleCount_12 : decode cL_idleCount 12 = .ok (.astore_n 3, 1) := by decide +kernel
theorem dL_idleCount_13 : decode cL_idleCount 13 = .ok (.iconst 1, 1) := by decide +kernel
theorem dL_idleCount_14 : decode cL_idleCount 14 = .ok (.ireturn, 1) := by decide +kernel
theorem dL_idleCount_15 : decode cL_idleCount 15 = .ok (.iconst 0, 1) := by decide +kernel
theorem dL_idleCount_16 : decode cL_idleCount 16 = .ok (.ireturn, 1) := by decide +kernel
set_option maxRecDepth 20000 in
theorem ggL_idleAt_X4_idleAt : GoodIn wsL_idleAt wsX4_idleAt := goodIn_ca (goodIn_ca (goodIn_r _ [7, 8, 9, 10, 11, 12, 13, 14, 6, 15, 16, 17, 18, 19, 20, 21, 22, 23, 24, 25, 26, 27, 28, 29, 30, 31, 32, 33, 34, 35, 36, 37, 38, 39, 40, 41, 42] (by decide +kernel) (by decide +kernel)) (goodIn_sub (fun _ h => List.mem_cons_of_mem _ (List.mem_append_left _ (List.mem_append_right _ h))) (by decide +kernel))) (goodIn_sub (fun _ h => List.mem_cons_of_mem _ (List.mem_append_right _ h)) (by decide +kernel))
set_option maxRecDepth 20000 in
theorem gL_idleAt_X4_idleAt : GoodIn wsL_idleAt (wsV RL 56 RX4 yX4_idleAt wsX4_idleAt) := goodIn_app (goodIn_of _ (by decide +kernel)) ggL_idleAt_X4_idleAt
theorem dL_idleAt_0 : decode cL_idleAt 0 = .ok (.aload_n 3, 1) := by decide +kernel
theorem dL_idleAt_1 : decode cL_idleAt 1 = .ok (.iconst 0, 1) := by decide +kernel
theorem dL_idleAt_2 : decode cL_idleAt 2 = .ok (.aload_n 0, 1) := by decide +kernel
theorem dL_idleAt_3 : decode cL_idleAt 3 = .ok (.iload_n 1, 1) := by decide +kernel
theorem dL_idleAt_4 : decode cL_idleAt 4 = .ok (.iload_n 2, 1) := by decide +kernel
theorem dL_idleAt_5 : decode cL_idleAt 5 = .ok (.invokevirtual 56, 3) := by decide +kernel
theorem dL_idleAt_8 : decode cL_idleAt 8 = .ok (.i2l, 1) := by decide +kernel
theorem dL_idleAt_9 : decode cL_idleAt 9 = .ok (.lastore, 1) := by decide +kernel
theorem dL_idleAt_10 : decode cL_idleAt 10 = .ok (.goto 11, 3) := by decide +kernel
theorem dL_idleAt_13 : decode cL_idleAt 13 = .ok (.astore 4, 2) := by decide +kernel
theorem dL_idleAt_15 : decode cL_idleAt 15 = .ok (.iconst 1, 1) := by decide +kernel
theorem dL_idleAt_16 : decode cL_idleAt 16 = .ok (.ireturn, 1) := by decide +kernel
theorem dL_idleAt_17 : decode cL_idleAt 17 = .ok (.astore 4, 2) := by decide +kernel
theorem dL_idleAt_19 : decode cL_idleAt 19 = .ok (.iconst 2, 1) := by decide +kernel
theorem dL_idleAt_20 : decode cL_idleAt 20 = .ok (.ireturn, 1) := by decide +kernel
theorem dL_idleAt_21 : decode cL_idleAt 21 = .ok (.iconst 0, 1) := by decide +kernel
theorem dL_idleAt_22 : decode cL_idleAt 22 = .ok (.ireturn, 1) := by decide +kernel
set_option maxRecDepth 20000 in
theorem ggL_knownLength_X4_knownLength : GoodIn wsL_knownLength wsX4_knownLength := goodIn_ca (goodIn_r _ [6, 7, 8, 9, 10, 11, 12, 5, 13, 14, 15, 16, 17, 18, 19, 20, 21, 22, 23, 24, 25, 26, 27, 28, 29, 30, 31, 32, 33, 34, 35, 36, 37, 38, 39, 40] (by decide +kernel) (by decide +kernel)) (goodIn_sub (fun _ h => List.mem_cons_of_mem _ (List.mem_append_right _ h)) (by decide +kernel))
set_option maxRecDepth 20000 in
theorem gL_knownLength_X4_knownLength : GoodIn wsL_knownLength (wsV RL 61 RX4 yX4_knownLength wsX4_knownLength) := goodIn_app (goodIn_of _ (by decide +kernel)) ggL_knownLength_X4_knownLength
theorem dL_knownLength_0 : decode cL_knownLength 0 = .ok (.aload_n 3, 1) := by decide +kernel
theorem dL_knownLength_1 : decode cL_knownLength 1 = .ok (.iconst 0, 1) := by decide +kernel
theorem dL_knownLength_2 : decode cL_knownLength 2 = .ok (.aload_n 0, 1) := by decide +kernel
theorem dL_knownLength_3 : decode cL_knownLength 3 = .ok (.iload_n 1, 1) := by decide +kernel
theorem dL_knownLength_4 : decode cL_knownLength 4 = .ok (.iload_n 2, 1) := by decide +kernel
theorem dL_knownLength_5 : decode cL_knownLength 5 = .ok (.invokevirtual 61, 3) := by decide +kernel
theorem dL_knownLength_8 : decode cL_knownLength 8 = .ok (.i2l, 1) := by decide +kernel
theorem dL_knownLength_9 : decode cL_knownLength 9 = .ok (.lastore, 1) := by decide +kernel
theorem dL_knownLength_10 : decode cL_knownLength 10 = .ok (.goto 7, 3) := by decide +kernel
theorem dL_knownLength_13 : decode cL_knownLength 13 = .ok (.astore 4, 2) := by decide +kernel
theorem dL_knownLength_15 : decode cL_knownLength 15 = .ok (.iconst 1, 1) := by decide +kernel
theorem dL_knownLength_16 : decode cL_knownLength 16 = .ok (.ireturn, 1) := by decide +kernel
theorem dL_knownLength_17 : decode cL_knownLength 17 = .ok (.iconst 0, 1) := by decide +kernel
theorem dL_knownLength_18 : decode cL_knownLength 18 = .ok (.ireturn, 1) := by decide +kernel
set_option maxRecDepth 20000 in
theorem ggL_expectedLength_X4_expectedLength : GoodIn wsL_expectedLength wsX4_expectedLength := goodIn_ca (goodIn_ca (goodIn_r _ [7, 8, 9, 10, 11, 6, 12, 13, 14, 15, 16, 17, 18, 19, 20, 21, 22, 23, 24, 25, 26, 27, 28, 29, 30, 31, 32, 33, 34, 35, 36, 37, 38, 39, 40, 41, 42, 43, 44, 45, 46, 47, 48, 49, 50, 51, 52, 53, 54, 55, 56, 57, 58, 59, 60, 61, 62, 63, 64, 65, 66, 67, 68, 69, 70, 71, 72, 73, 74, 75, 76, 77, 78, 79, 80, 81, 82, 83, 84, 85, 86, 87, 88, 89, 90, 91, 92, 93, 94, 95, 96] (by decide +kernel) (by decide +kernel)) (goodIn_sub (fun _ h => List.mem_cons_of_mem _ (List.mem_append_left _ (List.mem_append_right _ h))) (by decide +kernel))) (goodIn_sub (fun _ h => List.mem_cons_of_mem _ (List.mem_append_right _ h)) (by decide +kernel))
set_option maxRecDepth 20000 in
theorem gL_expectedLength_X4_expectedLength : GoodIn wsL_expectedLength (wsV RL 64 RX4 yX4_expectedLength wsX4_expectedLength) := goodIn_app (goodIn_of _ (by decide +kernel)) ggL_expectedLength_X4_expectedLength
theorem dL_expectedLength_0 : decode cL_expectedLength 0 = .ok (.aload_n 3, 1) := by decide +kernel
theorem dL_expectedLength_1 : decode cL_expectedLength 1 = .ok (.iconst 0, 1) := by decide +kernel
theorem dL_expectedLength_2 : decode cL_expectedLength 2 = .ok (.aload_n 0, 1) := by decide +kernel
theorem dL_expectedLength_3 : decode cL_expectedLength 3 = .ok (.iload_n 1, 1) := by decide +kernel
theorem dL_expectedLength_4 : decode cL_expectedLength 4 = .ok (.iload_n 2, 1) := by decide +kernel
theorem dL_expectedLength_5 : decode cL_expectedLength 5 = .ok (.invokevirtual 64, 3) := by decide +kernel
theorem dL_expectedLength_8 : decode cL_expectedLength 8 = .ok (.i2l, 1) := by decide +kernel
theorem dL_expectedLength_9 : decode cL_expectedLength 9 = .ok (.lastore, 1) := by decide +kernel
theorem dL_expectedLength_10 : decode cL_expectedLength 10 = .ok (.goto 11, 3) := by decide +kernel
theorem dL_expectedLength_13 : decode cL_expectedLength 13 = .ok (.astore 4, 2) := by decide +kernel
theorem dL_expectedLength_15 : decode cL_expectedLength 15 = .ok (.iconst 1, 1) := by decide +kernel
theorem dL_expectedLength_16 : decode cL_expectedLength 16 = .ok (.ireturn, 1) := by decide +kernel
theorem dL_expectedLength_17 : decode cL_expectedLength 17 = .ok (.astore 4, 2) := by decide +kernel
theorem dL_expectedLength_19 : decode cL_expectedLength 19 = .ok (.iconst 2, 1) := by decide +kernel
theorem dL_expectedLength_20 : decode cL_expectedLength 20 = .ok (.ireturn, 1) := by decide +kernel
theorem dL_expectedLength_21 : decode cL_expectedLength 21 = .ok (.iconst 0, 1) := by decide +kernel
theorem dL_expectedLength_22 : decode cL_expectedLength 22 = .ok (.ireturn, 1) := by decide +kernel
set_option maxRecDepth 20000 in
theorem ggL_serverOf_X4_serverOf : GoodIn wsL_serverOf wsX4_serverOf := goodIn_ca (goodIn_r _ [6, 7, 8, 9, 10, 11, 12, 5, 13, 14, 15, 16, 17, 18, 19, 20, 21, 22, 23, 24, 25, 26, 27, 28, 29, 30, 31, 32, 33, 34, 35, 36, 37, 38, 39] (by decide +kernel) (by decide +kernel)) (goodIn_sub (fun _ h => List.mem_cons_of_mem _ (List.mem_append_right _ h)) (by decide +kernel))
set_option maxRecDepth 20000 in
theorem gL_serverOf_X4_serverOf : GoodIn wsL_serverOf (wsV RL 67 RX4 yX4_serverOf wsX4_serverOf) := goodIn_app (goodIn_of _ (by decide +kernel)) ggL_serverOf_X4_serverOf
theorem dL_serverOf_0 : decode cL_serverOf 0 = .ok (.aload_n 2, 1) := by decide +kernel
theorem dL_serverOf_1 : decode cL_serverOf 1 = .ok (.iconst 0, 1) := by decide +kernel
theorem dL_serverOf_2 : decode cL_serverOf 2 = .ok (.aload_n 0, 1) := by decide +kernel
theorem dL_serverOf_3 : decode cL_serverOf 3 = .ok (.iload_n 1, 1) := by decide +kernel
theorem dL_serverOf_4 : decode cL_serverOf 4 = .ok (.invokevirtual 67, 3) := by decide +kernel
theorem dL_serverOf_7 : decode cL_serverOf 7 = .ok (.i2l, 1) := by decide +kernel
theorem dL_serverOf_8 : decode cL_serverOf 8 = .ok (.lastore, 1) := by decide +kernel
theorem dL_serverOf_9 : decode cL_serverOf 9 = .ok (.goto 6, 3) := by decide +kernel
theorem dL_serverOf_12 : decode cL_serverOf 12 = .ok (.astore_n 3, 1) := by decide +kernel
theorem dL_serverOf_13 : decode cL_serverOf 13 = .ok (.iconst 1, 1) := by decide +kernel
theorem dL_serverOf_14 : decode cL_serverOf 14 = .ok (.ireturn, 1) := by decide +kernel
theorem dL_serverOf_15 : decode cL_serverOf 15 = .ok (.iconst 0, 1) := by decide +kernel
theorem dL_serverOf_16 : decode cL_serverOf 16 = .ok (.ireturn, 1) := by decide +kernel
set_option maxRecDepth 20000 in
theorem ggL_waitOf_X4_waitOf : GoodIn wsL_waitOf wsX4_waitOf := goodIn_ca (goodIn_r _ [6, 7, 8, 9, 10, 11, 12, 5, 13, 14, 15, 16, 17, 18, 19, 20, 21, 22, 23, 24, 25, 26, 27, 28, 29, 30, 31, 32, 33, 34, 35, 36, 37, 38, 39] (by decide +kernel) (by decide +kernel)) (goodIn_sub (fun _ h => List.mem_cons_of_mem _ (List.mem_append_right _ h)) (by decide +kernel))
set_option maxRecDepth 20000 in
theorem gL_waitOf_X4_waitOf : GoodIn wsL_waitOf (wsV RL 70 RX4 yX4_waitOf wsX4_waitOf) := goodIn_app (goodIn_of _ (by decide +kernel)) ggL_waitOf_X4_waitOf
theorem dL_waitOf_0 : decode cL_waitOf 0 = .ok (.aload_n 2, 1) := by decide +kernel
theorem dL_waitOf_1 : decode cL_waitOf 1 = .ok (.iconst 0, 1) := by decide +kernel
theorem dL_waitOf_2 : decode cL_waitOf 2 = .ok (.aload_n 0, 1) := by decide +kernel
theorem dL_waitOf_3 : decode cL_waitOf 3 = .ok (.iload_n 1, 1) := by decide +kernel
theorem dL_waitOf_4 : decode cL_waitOf 4 = .ok (.invokevirtual 70, 3) := by decide +kernel
theorem dL_waitOf_7 : decode cL_waitOf 7 = .ok (.i2l, 1) := by decide +kernel
theorem dL_waitOf_8 : decode cL_waitOf 8 = .ok (.lastore, 1) := by decide +kernel
theorem dL_waitOf_9 : decode cL_waitOf 9 = .ok (.goto 6, 3) := by decide +kernel
theorem dL_waitOf_12 : decode cL_waitOf 12 = .ok (.astore_n 3, 1) := by decide +kernel
theorem dL_waitOf_13 : decode cL_waitOf 13 = .ok (.iconst 1, 1) := by decide +kernel
theorem dL_waitOf_14 : decode cL_waitOf 14 = .ok (.ireturn, 1) := by decide +kernel
theorem dL_waitOf_15 : decode cL_waitOf 15 = .ok (.iconst 0, 1) := by decide +kernel
theorem dL_waitOf_16 : decode cL_waitOf 16 = .ok (.ireturn, 1) := by decide +kernel
set_option maxRecDepth 20000 in
theorem ggL_undo_X4_undo : GoodIn wsL_undo wsX4_undo := goodIn_ca (goodIn_r _ [6, 7, 8, 9, 10, 11, 12, 13, 14] (by decide +kernel) (by decide +kernel)) (goodIn_sub (fun _ h => List.mem_cons_of_mem _ (List.mem_append_right _ h)) (by decide +kernel))
set_option maxRecDepth 20000 in
theorem gL_undo_X4_undo : GoodIn wsL_undo (wsV RL 73 RX4 yX4_undo wsX4_undo) := goodIn_app (goodIn_of _ (by decide +kernel)) ggL_undo_X4_undo
theorem dL_undo_0 : decode cL_undo 0 = .ok (.aload_n 1, 1) := by decide +kernel
theorem dL_undo_1 : decode cL_undo 1 = .ok (.iconst 0, 1) := by decide +kernel
theorem dL_undo_2 : decode cL_undo 2 = .ok (.aload_n 0, 1) := by decide +kernel
theorem dL_undo_3 : decode cL_undo 3 = .ok (.invokevirtual 73, 3) := by decide +kernel
theorem dL_undo_6 : decode cL_undo 6 = .ok (.i2l, 1) := by decide +kernel
theorem dL_undo_7 : decode cL_undo 7 = .ok (.lastore, 1) := by decide +kernel
theorem dL_undo_8 : decode cL_undo 8 = .ok (.goto 6, 3) := by decide +kernel
theorem dL_undo_11 : decode cL_undo 11 = .ok (.astore_n 2, 1) := by decide +kernel
theorem dL_undo_12 : decode cL_undo 12 = .ok (.iconst 1, 1) := by decide +kernel
theorem dL_undo_13 : decode cL_undo 13 = .ok (.ireturn, 1) := by decide +kernel
theorem dL_undo_14 : decode cL_undo 14 = .ok (.iconst 0, 1) := by decide +kernel
theorem dL_undo_15 : decode cL_undo 15 = .ok (.ireturn, 1) := by decide +kernel
set_option maxRecDepth 20000 in
theorem ggL_law_X4_init : GoodIn wsL_law wsX4_init := goodIn_r _ [9, 10, 11, 12, 13, 14, 15, 16, 17, 18, 19, 20, 21, 22, 23, 24, 25, 26, 27, 28, 29, 30, 31, 32, 33, 34, 35, 36, 37, 38, 39, 40, 41, 42, 43, 44, 45, 46, 47, 48, 49, 50, 51, 52, 53, 54, 55, 56, 57, 58, 59, 60, 61, 62, 63, 64, 65, 66, 67, 68, 69, 70, 71, 72, 73, 74, 75, 76, 733, 734, 735, 736, 737, 738, 739, 740, 741, 742, 743, 724, 725, 726, 744, 745, 746, 747, 748, 749, 750, 751, 752, 753, 754, 755, 756, 757, 758, 759, 760, 761, 762, 763, 764] (by decide +kernel) (by decide +kernel)
set_option maxRecDepth 20000 in
theorem gL_law_X4_init : GoodIn wsL_law (wsX4_init) := ggL_law_X4_init
set_option maxRecDepth 20000 in
theorem ggL_law_X5_init : GoodIn wsL_law wsX5_init := goodIn_r _ [79, 80, 11, 12, 42, 81, 82, 83, 727, 728, 729, 730, 731, 732] (by decide +kernel) (by decide +kernel)
set_option maxRecDepth 20000 in
theorem gL_law_X5_init : GoodIn wsL_law (wsX5_init) := ggL_law_X5_init
set_option maxRecDepth 20000 in
theorem ggL_law_L_addServer : GoodIn wsL_law wsL_addServer := goodIn_ca (goodIn_r _ [87, 88, 89, 90, 91, 2, 92, 93, 94, 16, 95, 96, 97, 98, 99, 18, 17, 100, 101, 102, 103, 104, 105, 106, 15, 107, 23, 24, 25, 26, 27, 28, 30, 34, 40, 108, 109, 110, 32, 111, 48, 49, 50, 51, 52, 53, 112, 113, 114, 36, 115, 58, 59, 60, 61, 116, 117, 118, 119, 62, 120, 121, 122, 39, 123, 67, 68, 69, 70, 71, 72, 124, 73, 74, 75, 76, 125, 126, 127, 128, 41, 129, 43, 130, 131, 132, 133, 134, 135, 136, 137, 138, 139, 140, 141, 142, 143, 144, 145, 146, 147, 148, 149, 150, 151, 152, 153, 154, 155, 724, 725, 726, 733, 734, 735, 736, 737, 738, 739, 740, 741, 742, 743, 744, 745, 746, 747, 748, 749, 750, 751, 752, 753, 754, 755, 756, 757, 758, 759, 760, 761, 762, 763, 764] (by decide +kernel) (by decide +kernel)) (goodIn_sub (fun _ h => List.mem_append_left _ (List.mem_append_left _ (List.mem_append_right _ h))) (by decide +kernel))
set_option maxRecDepth 20000 in
theorem gL_law_L_addServer : GoodIn wsL_law (va_wsS RL 80 yL_addServer wsL_addServer) := goodIn_app (goodIn_of _ (by decide +kernel)) ggL_law_L_addServer
set_option maxRecDepth 20000 in
theorem ggL_law_X5_addServer : GoodIn wsL_law wsX5_addServer := goodIn_r _ [159, 160, 81, 161, 162, 163, 5, 164, 165, 166, 167, 168, 169, 82, 170, 171, 172, 173, 174, 175, 176, 177, 178, 179, 180, 181, 727, 728, 729, 730, 731, 732] (by decide +kernel) (by decide +kernel)
set_option maxRecDepth 20000 in
theorem gL_law_X5_addServer : GoodIn wsL_law (wsV RL 85 RX5 yX5_addServer wsX5_addServer) := goodIn_app (goodIn_of _ (by decide +kernel)) ggL_law_X5_addServer
set_option maxRecDepth 20000 in
theorem ggL_law_X5_thrown : GoodIn wsL_law wsX5_thrown := goodIn_r _ [185, 160, 727, 728, 729, 730, 731, 732] (by decide +kernel) (by decide +kernel)
set_option maxRecDepth 20000 in
theorem gL_law_X5_thrown : GoodIn wsL_law (wsV RL 86 RX5 yX5_thrown wsX5_thrown) := goodIn_app (goodIn_of _ (by decide +kernel)) ggL_law_X5_thrown
set_option maxRecDepth 20000 in
theorem ggL_law_L_addDispatcher : GoodIn wsL_law wsL_addDispatcher := goodIn_ca (goodIn_ca (goodIn_r _ [188, 189, 88, 190, 191, 192, 2, 193, 93, 94, 16, 194, 195, 196, 197, 198, 199, 96, 97, 98, 99, 18, 17, 100, 101, 102, 103, 104, 105, 106, 15, 107, 23, 24, 25, 26, 27, 28, 30, 34, 40, 108, 109, 110, 32, 111, 48, 49, 50, 51, 52, 53, 112, 113, 114, 36, 115, 58, 59, 60, 61, 116, 117, 118, 119, 62, 120, 121, 122, 39, 123, 67, 68, 69, 70, 71, 72, 124, 73, 74, 75, 76, 125, 126, 127, 128, 41, 129, 43, 200, 201, 202, 203, 204, 724, 725, 726, 733, 734, 735, 736, 737, 738, 739, 740, 741, 742, 743, 744, 745, 746, 747, 748, 749, 750, 751, 752, 753, 754, 755, 756, 757, 758, 759, 760, 761, 762, 763, 764] (by decide +kernel) (by decide +kernel)) (goodIn_sub (fun _ h => List.mem_append_left _ (List.mem_append_left _ (List.mem_append_right _ h))) (by decide +kernel))) (goodIn_sub (fun _ h => List.mem_append_left _ (List.mem_append_right _ h)) (by decide +kernel))
set_option maxRecDepth 20000 in
theorem gL_law_L_addDispatcher : GoodIn wsL_law (va_wsS RL 89 yL_addDispatcher wsL_addDispatcher) := goodIn_app (goodIn_of _ (by decide +kernel)) ggL_law_L_addDispatcher
set_option maxRecDepth 20000 in
theorem ggL_law_X5_addDispatcher : GoodIn wsL_law wsX5_addDispatcher := goodIn_r _ [208, 160, 81, 209, 210, 5, 211, 161, 162, 163, 164, 165, 166, 167, 168, 169, 82, 727, 728, 729, 730, 731, 732] (by decide +kernel) (by decide +kernel)
set_option maxRecDepth 20000 in
theorem gL_law_X5_addDispatcher : GoodIn wsL_law (wsV RL 92 RX5 yX5_addDispatcher wsX5_addDispatcher) := goodIn_app (goodIn_of _ (by decide +kernel)) ggL_law_X5_addDispatcher
set_option maxRecDepth 20000 in
theorem ggL_law_L_setPolicy : GoodIn wsL_law wsL_setPolicy := goodIn_ca (goodIn_r _ [214, 189, 215, 216, 217, 2, 218, 16, 219, 220, 221, 222, 223, 224, 198, 199, 194, 195, 196, 197, 96, 97, 98, 99, 18, 17, 100, 101, 102, 103, 104, 105, 106, 15, 107, 23, 24, 25, 26, 27, 28, 30, 34, 40, 108, 109, 110, 32, 111, 48, 49, 50, 51, 52, 53, 112, 113, 114, 36, 115, 58, 59, 60, 61, 116, 117, 118, 119, 62, 120, 121, 122, 39, 123, 67, 68, 69, 70, 71, 72, 124, 73, 74, 75, 76, 125, 126, 127, 128, 41, 129, 43, 724, 725, 726, 733, 734, 735, 736, 737, 738, 739, 740, 741, 742, 743, 750, 751, 752, 753, 754, 744, 745, 746, 747, 748, 749, 755, 756, 757, 758, 759, 760, 761, 762, 763, 764] (by decide +kernel) (by decide +kernel)) (goodIn_sub (fun _ h => List.mem_append_left _ (List.mem_append_right _ h)) (by decide +kernel))
set_option maxRecDepth 20000 in
theorem gL_law_L_setPolicy : GoodIn wsL_law (va_wsS RL 93 yL_setPolicy wsL_setPolicy) := goodIn_app (goodIn_of _ (by decide +kernel)) ggL_law_L_setPolicy
set_option maxRecDepth 20000 in
theorem ggL_law_X5_setPolicy : GoodIn wsL_law wsX5_setPolicy := goodIn_r _ [228, 160, 81, 229, 230, 231, 5, 232, 209, 210, 211, 161, 162, 163, 164, 165, 166, 167, 168, 169, 82, 727, 728, 729, 730, 731, 732] (by decide +kernel) (by decide +kernel)
set_option maxRecDepth 20000 in
theorem gL_law_X5_setPolicy : GoodIn wsL_law (wsV RL 96 RX5 yX5_setPolicy wsX5_setPolicy) := goodIn_app (goodIn_of _ (by decide +kernel)) ggL_law_X5_setPolicy
set_option maxRecDepth 20000 in
theorem ggL_law_L_setJoinMode : GoodIn wsL_law wsL_setJoinMode := goodIn_ca (goodIn_r _ [235, 189, 236, 237, 238, 2, 239, 16, 240, 195, 196, 197, 198, 199, 96, 97, 98, 99, 18, 17, 100, 101, 102, 103, 104, 105, 106, 15, 107, 23, 24, 25, 26, 27, 28, 30, 34, 40, 108, 109, 110, 32, 111, 48, 49, 50, 51, 52, 53, 112, 113, 114, 36, 115, 58, 59, 60, 61, 116, 117, 118, 119, 62, 120, 121, 122, 39, 123, 67, 68, 69, 70, 71, 72, 124, 73, 74, 75, 76, 125, 126, 127, 128, 41, 129, 43, 724, 725, 726, 733, 734, 735, 736, 737, 738, 739, 740, 741, 742, 743, 744, 745, 746, 747, 748, 749, 750, 751, 752, 753, 754, 755, 756, 757, 758, 759, 760, 761, 762, 763, 764] (by decide +kernel) (by decide +kernel)) (goodIn_sub (fun _ h => List.mem_append_left _ (List.mem_append_right _ h)) (by decide +kernel))
set_option maxRecDepth 20000 in
theorem gL_law_L_setJoinMode : GoodIn wsL_law (va_wsS RL 97 yL_setJoinMode wsL_setJoinMode) := goodIn_app (goodIn_of _ (by decide +kernel)) ggL_law_L_setJoinMode
set_option maxRecDepth 20000 in
theorem ggL_law_X5_setJoinMode : GoodIn wsL_law wsX5_setJoinMode := goodIn_r _ [244, 160, 81, 209, 210, 5, 211, 161, 162, 163, 164, 165, 166, 167, 168, 169, 82, 727, 728, 729, 730, 731, 732] (by decide +kernel) (by decide +kernel)
set_option maxRecDepth 20000 in
theorem gL_law_X5_setJoinMode : GoodIn wsL_law (wsV RL 99 RX5 yX5_setJoinMode wsX5_setJoinMode) := goodIn_app (goodIn_of _ (by decide +kernel)) ggL_law_X5_setJoinMode
set_option maxRecDepth 20000 in
theorem ggL_law_L_setReportPeriod : GoodIn wsL_law wsL_setReportPeriod := goodIn_ca (goodIn_r _ [247, 189, 248, 249, 250, 2, 251, 16, 252, 195, 196, 197, 198, 199, 96, 97, 98, 99, 18, 17, 100, 101, 102, 103, 104, 105, 106, 15, 107, 23, 24, 25, 26, 27, 28, 30, 34, 40, 108, 109, 110, 32, 111, 48, 49, 50, 51, 52, 53, 112, 113, 114, 36, 115, 58, 59, 60, 61, 116, 117, 118, 119, 62, 120, 121, 122, 39, 123, 67, 68, 69, 70, 71, 72, 124, 73, 74, 75, 76, 125, 126, 127, 128, 41, 129, 43, 724, 725, 726, 733, 734, 735, 736, 737, 738, 739, 740, 741, 742, 743, 744, 745, 746, 747, 748, 749, 750, 751, 752, 753, 754, 755, 756, 757, 758, 759, 760, 761, 762, 763, 764] (by decide +kernel) (by decide +kernel)) (goodIn_sub (fun _ h => List.mem_append_left _ (List.mem_append_right _ h)) (by decide +kernel))
set_option maxRecDepth 20000 in
theorem gL_law_L_setReportPeriod : GoodIn wsL_law (va_wsS RL 100 yL_setReportPeriod wsL_setReportPeriod) := goodIn_app (goodIn_of _ (by decide +kernel)) ggL_law_L_setReportPeriod
set_option maxRecDepth 20000 in
theorem ggL_law_X5_setReportPeriod : GoodIn wsL_law wsX5_setReportPeriod := goodIn_r _ [256, 160, 81, 209, 210, 5, 211, 161, 162, 163, 164, 165, 166, 167, 168, 169, 82, 727, 728, 729, 730, 731, 732] (by decide +kernel) (by decide +kernel)
set_option maxRecDepth 20000 in
theorem gL_law_X5_setReportPeriod : GoodIn wsL_law (wsV RL 102 RX5 yX5_setReportPeriod wsX5_setReportPeriod) := goodIn_app (goodIn_of _ (by decide +kernel)) ggL_law_X5_setReportPeriod
set_option maxRecDepth 20000 in
theorem ggL_law_L_setRandom : GoodIn wsL_law wsL_setRandom := goodIn_ca (goodIn_r _ [259, 189, 260, 261, 262, 2, 263, 264, 16, 265, 195, 196, 197, 198, 199, 96, 97, 98, 99, 18, 17, 100, 101, 102, 103, 104, 105, 106, 15, 107, 23, 24, 25, 26, 27, 28, 30, 34, 40, 108, 109, 110, 32, 111, 48, 49, 50, 51, 52, 53, 112, 113, 114, 36, 115, 58, 59, 60, 61, 116, 117, 118, 119, 62, 120, 121, 122, 39, 123, 67, 68, 69, 70, 71, 72, 124, 73, 74, 75, 76, 125, 126, 127, 128, 41, 129, 43, 724, 725, 726, 733, 734, 735, 736, 737, 738, 739, 740, 741, 742, 743, 744, 745, 746, 747, 748, 749, 750, 751, 752, 753, 754, 755, 756, 757, 758, 759, 760, 761, 762, 763, 764] (by decide +kernel) (by decide +kernel)) (goodIn_sub (fun _ h => List.mem_append_left _ (List.mem_append_right _ h)) (by decide +kernel))
set_option maxRecDepth 20000 in
theorem gL_law_L_setRandom : GoodIn wsL_law (va_wsS RL 103 yL_setRandom wsL_setRandom) := goodIn_app (goodIn_of _ (by decide +kernel)) ggL_law_L_setRandom
set_option maxRecDepth 20000 in
theorem ggL_law_X5_setRandom : GoodIn wsL_law wsX5_setRandom := goodIn_r _ [269, 160, 270, 81, 209, 210, 5, 211, 161, 162, 163, 164, 165, 166, 167, 168, 169, 82, 727, 728, 729, 730, 731, 732] (by decide +kernel) (by decide +kernel)
set_option maxRecDepth 20000 in
theorem gL_law_X5_setRandom : GoodIn wsL_law (wsV RL 105 RX5 yX5_setRandom wsX5_setRandom) := goodIn_app (goodIn_of _ (by decide +kernel)) ggL_law_X5_setRandom
set_option maxRecDepth 20000 in
theorem ggL_law_L_setUp : GoodIn wsL_law wsL_setUp := goodIn_ca (goodIn_r _ [273, 189, 274, 275, 276, 2, 277, 16, 278, 279, 280, 281, 198, 199, 95, 96, 97, 98, 99, 18, 17, 100, 101, 102, 103, 104, 105, 106, 15, 107, 23, 24, 25, 26, 27, 28, 30, 34, 40, 108, 109, 110, 32, 111, 48, 49, 50, 51, 52, 53, 112, 113, 114, 36, 115, 58, 59, 60, 61, 116, 117, 118, 119, 62, 120, 121, 122, 39, 123, 67, 68, 69, 70, 71, 72, 124, 73, 74, 75, 76, 125, 126, 127, 128, 41, 129, 43, 282, 283, 284, 285, 286, 287, 288, 289, 290, 138, 291, 292, 293, 294, 134, 135, 136, 137, 139, 140, 141, 142, 143, 144, 145, 146, 147, 148, 149, 150, 151, 152, 153, 154, 155, 724, 725, 726, 733, 734, 735, 736, 737, 738, 739, 740, 741, 742, 743, 744, 745, 746, 747, 748, 749, 750, 751, 752, 753, 754, 755, 756, 757, 758, 759, 760, 761, 762, 763, 764] (by decide +kernel) (by decide +kernel)) (goodIn_sub (fun _ h => List.mem_append_left _ (List.mem_append_right _ h)) (by decide +kernel))
set_option maxRecDepth 20000 in
theorem gL_law_L_setUp : GoodIn wsL_law (va_wsS RL 106 yL_setUp wsL_setUp) := goodIn_app (goodIn_of _ (by decide +kernel)) ggL_law_L_setUp
set_option maxRecDepth 20000 in
theorem ggL_law_X5_setUp : GoodIn wsL_law wsX5_setUp := goodIn_r _ [298, 160, 81, 299, 300, 301, 5, 302, 209, 210, 211, 165, 166, 167, 168, 169, 82, 303, 304, 305, 306, 307, 308, 309, 310, 311, 312, 313, 314, 170, 171, 172, 173, 174, 175, 176, 177, 178, 179, 180, 181, 315, 316, 317, 318, 319, 320, 321, 322, 727, 728, 729, 730, 731, 732] (by decide +kernel) (by decide +kernel)
set_option maxRecDepth 20000 in
theorem gL_law_X5_setUp : GoodIn wsL_law (wsV RL 109 RX5 yX5_setUp wsX5_setUp) := goodIn_app (goodIn_of _ (by decide +kernel)) ggL_law_X5_setUp
set_option maxRecDepth 20000 in
theorem ggL_law_L_submit : GoodIn wsL_law wsL_submit := goodIn_ca (goodIn_ca (goodIn_r _ [325, 189, 88, 326, 327, 328, 2, 329, 93, 94, 16, 330, 331, 221, 222, 223, 224, 198, 199, 194, 195, 196, 197, 332, 333, 334, 335, 336, 96, 97, 98, 99, 18, 17, 100, 101, 102, 103, 104, 105, 106, 15, 107, 23, 24, 25, 26, 27, 28, 30, 34, 40, 108, 109, 110, 32, 111, 48, 49, 50, 51, 52, 53, 112, 113, 114, 36, 115, 58, 59, 60, 61, 116, 117, 118, 119, 62, 120, 121, 122, 39, 123, 67, 68, 69, 70, 71, 72, 124, 73, 74, 75, 76, 125, 126, 127, 128, 41, 129, 43, 337, 338, 339, 340, 286, 341, 342, 343, 344, 345, 204, 346, 347, 348, 349, 350, 351, 143, 352, 353, 354, 355, 356, 357, 358, 359, 360, 361, 362, 363, 364, 144, 145, 146, 147, 148, 149, 150, 151, 365, 366, 367, 368, 369, 370, 371, 372, 287, 288, 289, 290, 138, 291, 292, 293, 294, 373, 374, 375, 376, 377, 378, 379, 380, 381, 382, 383, 384, 385, 386, 387, 388, 724, 725, 726, 733, 734, 735, 736, 737, 738, 739, 740, 741, 742, 743, 755, 756, 757, 758, 759, 760, 761, 762, 763, 764, 744, 745, 746, 747, 748, 749, 750, 751, 752, 753, 754] (by decide +kernel) (by decide +kernel)) (goodIn_sub (fun _ h => List.mem_append_left _ (List.mem_append_left _ (List.mem_append_right _ h))) (by decide +kernel))) (goodIn_sub (fun _ h => List.mem_append_left _ (List.mem_append_right _ h)) (by decide +kernel))
set_option maxRecDepth 20000 in
theorem gL_law_L_submit : GoodIn wsL_law (va_wsS RL 110 yL_submit wsL_submit) := goodIn_app (goodIn_of _ (by decide +kernel)) ggL_law_L_submit
set_option maxRecDepth 20000 in
theorem ggL_law_X5_submit : GoodIn wsL_law wsX5_submit := goodIn_r _ [392, 160, 81, 229, 230, 231, 5, 232, 209, 210, 211, 161, 162, 163, 164, 393, 394, 395, 396, 83, 303, 304, 305, 306, 165, 166, 167, 168, 169, 82, 397, 398, 399, 400, 401, 402, 403, 404, 405, 406, 407, 408, 174, 175, 176, 177, 178, 179, 180, 181, 307, 308, 309, 310, 311, 312, 313, 314, 409, 410, 411, 412, 413, 414, 415, 416, 315, 316, 317, 318, 319, 320, 321, 322, 727, 728, 729, 730, 731, 732] (by decide +kernel) (by decide +kernel)
set_option maxRecDepth 20000 in
theorem gL_law_X5_submit : GoodIn wsL_law (wsV RL 112 RX5 yX5_submit wsX5_submit) := goodIn_app (goodIn_of _ (by decide +kernel)) ggL_law_X5_submit
set_option maxRecDepth 20000 in
theorem ggL_law_L_tick : GoodIn wsL_law wsL_tick := goodIn_ca (goodIn_r _ [419, 189, 420, 421, 422, 2, 423, 16, 330, 424, 195, 196, 197, 198, 199, 96, 97, 98, 99, 18, 17, 100, 101, 102, 103, 104, 105, 106, 15, 107, 23, 24, 25, 26, 27, 28, 30, 34, 40, 108, 109, 110, 32, 111, 48, 49, 50, 51, 52, 53, 112, 113, 114, 36, 115, 58, 59, 60, 61, 116, 117, 118, 119, 62, 120, 121, 122, 39, 123, 67, 68, 69, 70, 71, 72, 124, 73, 74, 75, 76, 125, 126, 127, 128, 41, 129, 43, 425, 426, 427, 428, 429, 430, 431, 432, 378, 380, 433, 434, 435, 436, 437, 438, 286, 379, 377, 385, 386, 387, 388, 369, 370, 371, 372, 134, 135, 136, 137, 138, 139, 140, 141, 142, 143, 144, 145, 146, 147, 148, 149, 150, 151, 152, 153, 154, 155, 439, 440, 441, 442, 347, 724, 725, 726, 733, 734, 735, 736, 737, 738, 739, 740, 741, 742, 743, 755, 756, 757, 758, 759, 760, 761, 762, 763, 764, 744, 745, 746, 747, 748, 749, 750, 751, 752, 753, 754] (by decide +kernel) (by decide +kernel)) (goodIn_sub (fun _ h => List.mem_append_left _ (List.mem_append_right _ h)) (by decide +kernel))
set_option maxRecDepth 20000 in
theorem gL_law_L_tick : GoodIn wsL_law (va_wsS RL 113 yL_tick wsL_tick) := goodIn_app (goodIn_of _ (by decide +kernel)) ggL_law_L_tick
set_option maxRecDepth 20000 in
theorem ggL_law_X5_tick : GoodIn wsL_law wsX5_tick := goodIn_r _ [446, 160, 81, 209, 210, 5, 211, 161, 162, 163, 164, 165, 166, 167, 168, 169, 82, 447, 448, 449, 450, 451, 452, 453, 454, 311, 312, 313, 314, 303, 304, 305, 306, 170, 171, 172, 173, 174, 175, 176, 177, 178, 179, 180, 181, 455, 456, 457, 458, 307, 308, 309, 310, 727, 728, 729, 730, 731, 732] (by decide +kernel) (by decide +kernel)
set_option maxRecDepth 20000 in
theorem gL_law_X5_tick : GoodIn wsL_law (wsV RL 115 RX5 yX5_tick wsX5_tick) := goodIn_app (goodIn_of _ (by decide +kernel)) ggL_law_X5_tick
set_option maxRecDepth 20000 in
theorem ggL_law_L_length : GoodIn wsL_law wsL_length := goodIn_ca (goodIn_r _ [461, 189, 462, 463, 464, 2, 465, 16, 466, 467, 278, 279, 280, 281, 198, 199, 95, 724, 725, 726, 733, 734, 735, 736, 737, 738, 739, 740, 741, 742, 743, 744, 745, 746, 747, 748, 749] (by decide +kernel) (by decide +kernel)) (goodIn_sub (fun _ h => List.mem_append_left _ (List.mem_append_right _ h)) (by decide +kernel))
set_option maxRecDepth 20000 in
theorem gL_law_L_length : GoodIn wsL_law (va_wsS RL 116 yL_length wsL_length) := goodIn_app (goodIn_of _ (by decide +kernel)) ggL_law_L_length
set_option maxRecDepth 20000 in
theorem ggL_law_X5_length : GoodIn wsL_law wsX5_length := goodIn_r _ [471, 160, 299, 300, 301, 5, 302, 81, 209, 210, 211, 307, 308, 309, 310, 311, 312, 313, 314, 161, 162, 163, 164, 727, 728, 729, 730, 731, 732] (by decide +kernel) (by decide +kernel)
set_option maxRecDepth 20000 in
theorem gL_law_X5_length : GoodIn wsL_law (wsV RL 118 RX5 yX5_length wsX5_length) := goodIn_app (goodIn_of _ (by decide +kernel)) ggL_law_X5_length
set_option maxRecDepth 20000 in
theorem ggL_law_L_work : GoodIn wsL_law wsL_work := goodIn_ca (goodIn_r _ [474, 189, 475, 476, 477, 2, 478, 16, 466, 479, 278, 279, 280, 281, 198, 199, 95, 724, 725, 726, 733, 734, 735, 736, 737, 738, 739, 740, 741, 742, 743, 744, 745, 746, 747, 748, 749] (by decide +kernel) (by decide +kernel)) (goodIn_sub (fun _ h => List.mem_append_left _ (List.mem_append_right _ h)) (by decide +kernel))
set_option maxRecDepth 20000 in
theorem gL_law_L_work : GoodIn wsL_law (va_wsS RL 119 yL_work wsL_work) := goodIn_app (goodIn_of _ (by decide +kernel)) ggL_law_L_work
set_option maxRecDepth 20000 in
theorem ggL_law_X5_work : GoodIn wsL_law wsX5_work := goodIn_r _ [483, 160, 299, 300, 301, 5, 302, 81, 209, 210, 211, 484, 485, 486, 487, 311, 312, 313, 314, 161, 162, 163, 164, 727, 728, 729, 730, 731, 732] (by decide +kernel) (by decide +kernel)
set_option maxRecDepth 20000 in
theorem gL_law_X5_work : GoodIn wsL_law (wsV RL 121 RX5 yX5_work wsX5_work) := goodIn_app (goodIn_of _ (by decide +kernel)) ggL_law_X5_work
set_option maxRecDepth 20000 in
theorem ggL_law_L_registeredAt : GoodIn wsL_law wsL_registeredAt := goodIn_ca (goodIn_r _ [490, 189, 491, 492, 493, 2, 494, 16, 466, 495, 278, 279, 280, 281, 198, 199, 95, 724, 725, 726, 733, 734, 735, 736, 737, 738, 739, 740, 741, 742, 743, 744, 745, 746, 747, 748, 749] (by decide +kernel) (by decide +kernel)) (goodIn_sub (fun _ h => List.mem_append_left _ (List.mem_append_right _ h)) (by decide +kernel))
set_option maxRecDepth 20000 in
theorem gL_law_L_registeredAt : GoodIn wsL_law (va_wsS RL 122 yL_registeredAt wsL_registeredAt) := goodIn_app (goodIn_of _ (by decide +kernel)) ggL_law_L_registeredAt
set_option maxRecDepth 20000 in
theorem ggL_law_X5_registeredAt : GoodIn wsL_law wsX5_registeredAt := goodIn_r _ [499, 160, 299, 300, 301, 5, 302, 81, 209, 210, 211, 319, 320, 321, 322, 161, 162, 163, 164, 727, 728, 729, 730, 731, 732] (by decide +kernel) (by decide +kernel)
set_option maxRecDepth 20000 in
theorem gL_law_X5_registeredAt : GoodIn wsL_law (wsV RL 124 RX5 yX5_registeredAt wsX5_registeredAt) := goodIn_app (goodIn_of _ (by decide +kernel)) ggL_law_X5_registeredAt
set_option maxRecDepth 20000 in
theorem ggL_law_L_idleCount : GoodIn wsL_law wsL_idleCount := goodIn_ca (goodIn_r _ [502, 189, 503, 504, 505, 2, 506, 16, 219, 507, 221, 222, 223, 224, 198, 199, 194, 724, 725, 726, 733, 734, 735, 736, 737, 738, 739, 740, 741, 742, 743, 750, 751, 752, 753, 754] (by decide +kernel) (by decide +kernel)) (goodIn_sub (fun _ h => List.mem_append_left _ (List.mem_append_right _ h)) (by decide +kernel))
set_option maxRecDepth 20000 in
theorem gL_law_L_idleCount : GoodIn wsL_law (va_wsS RL 125 yL_idleCount wsL_idleCount) := goodIn_app (goodIn_of _ (by decide +kernel)) ggL_law_L_idleCount
set_option maxRecDepth 20000 in
theorem ggL_law_X5_idleCount : GoodIn wsL_law wsX5_idleCount := goodIn_r _ [511, 160, 81, 229, 230, 231, 5, 232, 209, 210, 211, 161, 162, 163, 164, 727, 728, 729, 730, 731, 732] (by decide +kernel) (by decide +kernel)
set_option maxRecDepth 20000 in
theorem gL_law_X5_idleCount : GoodIn wsL_law (wsV RL 127 RX5 yX5_idleCount wsX5_idleCount) := goodIn_app (goodIn_of _ (by decide +kernel)) ggL_law_X5_idleCount
set_option maxRecDepth 20000 in
theorem ggL_law_L_idleAt : GoodIn wsL_law wsL_idleAt := goodIn_ca (goodIn_ca (goodIn_r _ [514, 189, 515, 516, 517, 518, 2, 519, 16, 219, 507, 520, 221, 222, 223, 224, 198, 199, 194, 521, 522, 523, 524, 525, 724, 725, 726, 733, 734, 735, 736, 737, 738, 739, 740, 741, 742, 743, 750, 751, 752, 753, 754] (by decide +kernel) (by decide +kernel)) (goodIn_sub (fun _ h => List.mem_append_left _ (List.mem_append_right _ h)) (by decide +kernel))) (goodIn_sub (fun _ h => List.mem_append_right _ h) (by decide +kernel))
set_option maxRecDepth 20000 in
theorem gL_law_L_idleAt : GoodIn wsL_law (va_wsS RL 128 yL_idleAt wsL_idleAt) := goodIn_app (goodIn_of _ (by decide +kernel)) ggL_law_L_idleAt
set_option maxRecDepth 20000 in
theorem ggL_law_X5_idleAt : GoodIn wsL_law wsX5_idleAt := goodIn_r _ [529, 160, 81, 229, 230, 231, 5, 232, 209, 210, 211, 161, 162, 163, 164, 727, 728, 729, 730, 731, 732] (by decide +kernel) (by decide +kernel)
set_option maxRecDepth 20000 in
theorem gL_law_X5_idleAt : GoodIn wsL_law (wsV RL 130 RX5 yX5_idleAt wsX5_idleAt) := goodIn_app (goodIn_of _ (by decide +kernel)) ggL_law_X5_idleAt
set_option maxRecDepth 20000 in
theorem ggL_law_L_knownLength : GoodIn wsL_law wsL_knownLength := goodIn_ca (goodIn_r _ [532, 189, 533, 534, 535, 2, 536, 16, 219, 537, 221, 222, 223, 224, 198, 199, 194, 278, 279, 280, 281, 95, 724, 725, 726, 733, 734, 735, 736, 737, 738, 739, 740, 741, 742, 743, 750, 751, 752, 753, 754] (by decide +kernel) (by decide +kernel)) (goodIn_sub (fun _ h => List.mem_append_left _ (List.mem_append_right _ h)) (by decide +kernel))
set_option maxRecDepth 20000 in
theorem gL_law_L_knownLength : GoodIn wsL_law (va_wsS RL 131 yL_knownLength wsL_knownLength) := goodIn_app (goodIn_of _ (by decide +kernel)) ggL_law_L_knownLength
set_option maxRecDepth 20000 in
theorem ggL_law_X5_knownLength : GoodIn wsL_law wsX5_knownLength := goodIn_r _ [541, 160, 81, 229, 230, 231, 5, 232, 209, 210, 211, 299, 300, 301, 302, 161, 162, 163, 164, 727, 728, 729, 730, 731, 732] (by decide +kernel) (by decide +kernel)
set_option maxRecDepth 20000 in
theorem gL_law_X5_knownLength : GoodIn wsL_law (wsV RL 133 RX5 yX5_knownLength wsX5_knownLength) := goodIn_app (goodIn_of _ (by decide +kernel)) ggL_law_X5_knownLength
set_option maxRecDepth 20000 in
theorem ggL_law_L_expectedLength : GoodIn wsL_law wsL_expectedLength := goodIn_ca (goodIn_ca (goodIn_r _ [544, 189, 88, 545, 546, 547, 2, 548, 16, 221, 222, 223, 224, 198, 199, 194, 195, 196, 197, 332, 333, 334, 335, 93, 94, 336, 549, 550, 551, 15, 552, 34, 30, 286, 204, 348, 349, 350, 351, 346, 143, 352, 347, 353, 354, 355, 356, 41, 43, 357, 358, 359, 360, 553, 554, 555, 556, 557, 558, 559, 560, 561, 562, 563, 564, 565, 566, 567, 568, 569, 570, 571, 724, 725, 726, 733, 734, 735, 736, 737, 738, 739, 740, 741, 742, 743, 744, 745, 746, 747, 748, 749, 750, 751, 752, 753, 754] (by decide +kernel) (by decide +kernel)) (goodIn_sub (fun _ h => List.mem_append_left _ (List.mem_append_right _ h)) (by decide +kernel))) (goodIn_sub (fun _ h => List.mem_append_left _ (List.mem_append_left _ (List.mem_append_right _ h))) (by decide +kernel))
set_option maxRecDepth 20000 in
theorem gL_law_L_expectedLength : GoodIn wsL_law (va_wsS RL 134 yL_expectedLength wsL_expectedLength) := goodIn_app (goodIn_of _ (by decide +kernel)) ggL_law_L_expectedLength
set_option maxRecDepth 20000 in
theorem ggL_law_X5_expectedLength : GoodIn wsL_law wsX5_expectedLength := goodIn_r _ [575, 160, 229, 230, 231, 5, 232, 81, 209, 210, 211, 161, 162, 163, 164, 393, 394, 395, 396, 83, 303, 304, 305, 306, 576, 577, 578, 579, 580, 581, 582, 583, 307, 308, 309, 310, 311, 312, 313, 314, 584, 585, 586, 587, 401, 402, 403, 404, 409, 410, 411, 412, 588, 589, 590, 727, 728, 729, 730, 731, 732] (by decide +kernel) (by decide +kernel)
set_option maxRecDepth 20000 in
theorem gL_law_X5_expectedLength : GoodIn wsL_law (wsV RL 136 RX5 yX5_expectedLength wsX5_expectedLength) := goodIn_app (goodIn_of _ (by decide +kernel)) ggL_law_X5_expectedLength
set_option maxRecDepth 20000 in
theorem ggL_law_X4_submitted : GoodIn wsL_law wsX4_submitted := goodIn_r _ [594, 16, 330, 331, 724, 725, 726, 733, 734, 735, 736, 737, 738, 739, 740, 741, 742, 743, 755, 756, 757, 758, 759, 760, 761, 762, 763, 764] (by decide +kernel) (by decide +kernel)
set_option maxRecDepth 20000 in
theorem gL_law_X4_submitted : GoodIn wsL_law (wsV RL 137 RX4 yX4_submitted wsX4_submitted) := goodIn_app (goodIn_of _ (by decide +kernel)) ggL_law_X4_submitted
set_option maxRecDepth 20000 in
theorem ggL_law_X5_submitted : GoodIn wsL_law wsX5_submitted := goodIn_r _ [598, 160, 81, 727, 728, 729, 730, 731, 732] (by decide +kernel) (by decide +kernel)
set_option maxRecDepth 20000 in
theorem gL_law_X5_submitted : GoodIn wsL_law (wsV RL 140 RX5 yX5_submitted wsX5_submitted) := goodIn_app (goodIn_of _ (by decide +kernel)) ggL_law_X5_submitted
set_option maxRecDepth 20000 in
theorem ggL_law_X4_finished : GoodIn wsL_law wsX4_finished := goodIn_r _ [602, 16, 330, 424, 724, 725, 726, 733, 734, 735, 736, 737, 738, 739, 740, 741, 742, 743, 755, 756, 757, 758, 759, 760, 761, 762, 763, 764] (by decide +kernel) (by decide +kernel)
set_option maxRecDepth 20000 in
theorem gL_law_X4_finished : GoodIn wsL_law (wsV RL 141 RX4 yX4_finished wsX4_finished) := goodIn_app (goodIn_of _ (by decide +kernel)) ggL_law_X4_finished
set_option maxRecDepth 20000 in
theorem ggL_law_X5_finished : GoodIn wsL_law wsX5_finished := goodIn_r _ [606, 160, 81, 727, 728, 729, 730, 731, 732] (by decide +kernel) (by decide +kernel)
set_option maxRecDepth 20000 in
theorem gL_law_X5_finished : GoodIn wsL_law (wsV RL 144 RX5 yX5_finished wsX5_finished) := goodIn_app (goodIn_of _ (by decide +kernel)) ggL_law_X5_finished
set_option maxRecDepth 20000 in
theorem ggL_law_L_serverOf : GoodIn wsL_law wsL_serverOf := goodIn_ca (goodIn_r _ [609, 515, 610, 611, 612, 2, 613, 16, 330, 331, 614, 521, 522, 523, 524, 525, 724, 725, 726, 733, 734, 735, 736, 737, 738, 739, 740, 741, 742, 743, 755, 756, 757, 758, 759, 760, 761, 762, 763, 764] (by decide +kernel) (by decide +kernel)) (goodIn_sub (fun _ h => List.mem_append_right _ h) (by decide +kernel))
set_option maxRecDepth 20000 in
theorem gL_law_L_serverOf : GoodIn wsL_law (va_wsS RL 145 yL_serverOf wsL_serverOf) := goodIn_app (goodIn_of _ (by decide +kernel)) ggL_law_L_serverOf
set_option maxRecDepth 20000 in
theorem ggL_law_X5_serverOf : GoodIn wsL_law wsX5_serverOf := goodIn_r _ [618, 160, 81, 619, 620, 621, 5, 622, 209, 210, 211, 161, 162, 163, 164, 727, 728, 729, 730, 731, 732] (by decide +kernel) (by decide +kernel)
set_option maxRecDepth 20000 in
theorem gL_law_X5_serverOf : GoodIn wsL_law (wsV RL 147 RX5 yX5_serverOf wsX5_serverOf) := goodIn_app (goodIn_of _ (by decide +kernel)) ggL_law_X5_serverOf
set_option maxRecDepth 20000 in
theorem ggL_law_L_waitOf : GoodIn wsL_law wsL_waitOf := goodIn_ca (goodIn_r _ [625, 515, 626, 627, 628, 2, 629, 16, 330, 331, 630, 521, 522, 523, 524, 525, 724, 725, 726, 733, 734, 735, 736, 737, 738, 739, 740, 741, 742, 743, 755, 756, 757, 758, 759, 760, 761, 762, 763, 764] (by decide +kernel) (by decide +kernel)) (goodIn_sub (fun _ h => List.mem_append_right _ h) (by decide +kernel))
set_option maxRecDepth 20000 in
theorem gL_law_L_waitOf : GoodIn wsL_law (va_wsS RL 148 yL_waitOf wsL_waitOf) := goodIn_app (goodIn_of _ (by decide +kernel)) ggL_law_L_waitOf
set_option maxRecDepth 20000 in
theorem ggL_law_X5_waitOf : GoodIn wsL_law wsX5_waitOf := goodIn_r _ [634, 160, 81, 619, 620, 621, 5, 622, 209, 210, 211, 161, 162, 163, 164, 727, 728, 729, 730, 731, 732] (by decide +kernel) (by decide +kernel)
set_option maxRecDepth 20000 in
theorem gL_law_X5_waitOf : GoodIn wsL_law (wsV RL 150 RX5 yX5_waitOf wsX5_waitOf) := goodIn_app (goodIn_of _ (by decide +kernel)) ggL_law_X5_waitOf
set_option maxRecDepth 20000 in
theorem ggL_law_X4_meanWait : GoodIn wsL_law wsX4_meanWait := goodIn_r _ [638, 16, 330, 639, 640, 724, 725, 726, 733, 734, 735, 736, 737, 738, 739, 740, 741, 742, 743, 755, 756, 757, 758, 759, 760, 761, 762, 763, 764] (by decide +kernel) (by decide +kernel)
set_option maxRecDepth 20000 in
theorem gL_law_X4_meanWait : GoodIn wsL_law (wsV RL 151 RX4 yX4_meanWait wsX4_meanWait) := goodIn_app (goodIn_of _ (by decide +kernel)) ggL_law_X4_meanWait
set_option maxRecDepth 20000 in
theorem ggL_law_X5_meanWait : GoodIn wsL_law wsX5_meanWait := goodIn_r _ [644, 160, 645, 646, 647, 5, 648, 81, 649, 650, 651, 652, 727, 728, 729, 730, 731, 732] (by decide +kernel) (by decide +kernel)
set_option maxRecDepth 20000 in
theorem gL_law_X5_meanWait : GoodIn wsL_law (wsV RL 155 RX5 yX5_meanWait wsX5_meanWait) := goodIn_app (goodIn_of _ (by decide +kernel)) ggL_law_X5_meanWait
set_option maxRecDepth 20000 in
theorem ggL_law_X4_missed : GoodIn wsL_law wsX4_missed := goodIn_r _ [656, 16, 330, 657, 724, 725, 726, 733, 734, 735, 736, 737, 738, 739, 740, 741, 742, 743, 755, 756, 757, 758, 759, 760, 761, 762, 763, 764] (by decide +kernel) (by decide +kernel)
set_option maxRecDepth 20000 in
theorem gL_law_X4_missed : GoodIn wsL_law (wsV RL 156 RX4 yX4_missed wsX4_missed) := goodIn_app (goodIn_of _ (by decide +kernel)) ggL_law_X4_missed
set_option maxRecDepth 20000 in
theorem ggL_law_X5_missed : GoodIn wsL_law wsX5_missed := goodIn_r _ [661, 160, 81, 727, 728, 729, 730, 731, 732] (by decide +kernel) (by decide +kernel)
set_option maxRecDepth 20000 in
theorem gL_law_X5_missed : GoodIn wsL_law (wsV RL 159 RX5 yX5_missed wsX5_missed) := goodIn_app (goodIn_of _ (by decide +kernel)) ggL_law_X5_missed
set_option maxRecDepth 20000 in
theorem ggL_law_X4_now : GoodIn wsL_law wsX4_now := goodIn_r _ [665, 16, 666, 724, 725, 726, 733, 734, 735, 736, 737, 738, 739, 740, 741, 742, 743] (by decide +kernel) (by decide +kernel)
set_option maxRecDepth 20000 in
theorem gL_law_X4_now : GoodIn wsL_law (wsV RL 160 RX4 yX4_now wsX4_now) := goodIn_app (goodIn_of _ (by decide +kernel)) ggL_law_X4_now
set_option maxRecDepth 20000 in
theorem ggL_law_X5_now : GoodIn wsL_law wsX5_now := goodIn_r _ [670, 160, 81, 727, 728, 729, 730, 731, 732] (by decide +kernel) (by decide +kernel)
set_option maxRecDepth 20000 in
theorem gL_law_X5_now : GoodIn wsL_law (wsV RL 163 RX5 yX5_now wsX5_now) := goodIn_app (goodIn_of _ (by decide +kernel)) ggL_law_X5_now
set_option maxRecDepth 20000 in
theorem ggL_law_L_undo : GoodIn wsL_law wsL_undo := goodIn_ca (goodIn_r _ [673, 88, 674, 675, 676, 2, 677, 93, 94, 18, 16, 17, 724, 725, 726] (by decide +kernel) (by decide +kernel)) (goodIn_sub (fun _ h => List.mem_append_left _ (List.mem_append_left _ (List.mem_append_right _ h))) (by decide +kernel))
set_option maxRecDepth 20000 in
theorem gL_law_L_undo : GoodIn wsL_law (va_wsS RL 164 yL_undo wsL_undo) := goodIn_app (goodIn_of _ (by decide +kernel)) ggL_law_L_undo
set_option maxRecDepth 20000 in
theorem ggL_law_X5_undo : GoodIn wsL_law wsX5_undo := goodIn_r _ [681, 160, 169, 81, 82, 161, 162, 163, 5, 164, 727, 728, 729, 730, 731, 732] (by decide +kernel) (by decide +kernel)
set_option maxRecDepth 20000 in
theorem gL_law_X5_undo : GoodIn wsL_law (wsV RL 166 RX5 yX5_undo wsX5_undo) := goodIn_app (goodIn_of _ (by decide +kernel)) ggL_law_X5_undo
set_option maxRecDepth 20000 in
theorem ggL_law_X4_digest : GoodIn wsL_law wsX4_digest := goodIn_r _ [685, 16, 686, 18, 687, 688, 689, 15, 690, 23, 24, 25, 26, 27, 30, 28, 34, 40, 691, 438, 692, 341, 693, 2, 694, 695, 696, 697, 698, 32, 699, 48, 49, 50, 51, 700, 701, 702, 36, 703, 58, 59, 60, 61, 62, 704, 724, 725, 726, 733, 734, 735, 736, 737, 738, 739, 740, 741, 742, 743, 755, 756, 757, 758, 759, 760, 761, 762, 763, 764, 744, 745, 746, 747, 748, 749, 750, 751, 752, 753, 754] (by decide +kernel) (by decide +kernel)
set_option maxRecDepth 20000 in
theorem gL_law_X4_digest : GoodIn wsL_law (wsV RL 167 RX4 yX4_digest wsX4_digest) := goodIn_app (goodIn_of _ (by decide +kernel)) ggL_law_X4_digest
set_option maxRecDepth 20000 in
theorem ggL_law_X5_digest : GoodIn wsL_law wsX5_digest := goodIn_r _ [708, 160, 709, 710, 81, 169, 711, 712, 713, 5, 714, 715, 716, 717, 718, 719, 307, 308, 309, 310, 311, 312, 313, 314, 484, 485, 486, 487, 319, 320, 321, 322, 720, 721, 722, 723, 649, 650, 651, 652, 727, 728, 729, 730, 731, 732] (by decide +kernel) (by decide +kernel)
set_option maxRecDepth 20000 in
theorem gL_law_X5_digest : GoodIn wsL_law (wsV RL 171 RX5 yX5_digest wsX5_digest) := goodIn_app (goodIn_of _ (by decide +kernel)) ggL_law_X5_digest
theorem dL_law_0 : decode cL_law 0 = .ok (.new 8, 3) := by decide +kernel
theorem dL_law_3 : decode cL_law 3 = .ok (.dup, 1) := by decide +kernel
theorem dL_law_4 : decode cL_law 4 = .ok (.invokespecial 76, 3) := by decide +kernel
theorem dL_law_7 : decode cL_law 7 = .ok (.astore_n 1, 1) := by decide +kernel
theorem dL_law_8 : decode cL_law 8 = .ok (.new 77, 3) := by decide +kernel
theorem dL_law_11 : decode cL_law 11 = .ok (.dup, 1) := by decide +kernel
theorem dL_law_12 : decode cL_law 12 = .ok (.invokespecial 79, 3) := by decide +kernel
theorem dL_law_15 : decode cL_law 15 = .ok (.astore_n 2, 1) := by decide +kernel
theorem dL_law_16 : decode cL_law 16 = .ok (.iconst 1, 1) := by decide +kernel
theorem dL_law_17 : decode cL_law 17 = .ok (.newarray .long, 2) := by decide +kernel
theorem dL_law_19 : decode cL_law 19 = .ok (.astore_n 3, 1) := by decide +kernel
theorem dL_law_20 : decode cL_law 20 = .ok (.iconst 0, 1) := by decide +kernel
theorem dL_law_21 : decode cL_law 21 = .ok (.istore 4, 2) := by decide +kernel
theorem dL_law_23 : decode cL_law 23 = .ok (.iload 4, 2) := by decide +kernel
theorem dL_law_25 : decode cL_law 25 = .ok (.aload_n 0, 1) := by decide +kernel
theorem dL_law_26 : decode cL_law 26 = .ok (.arraylength, 1) := by decide +kernel
theorem dL_law_27 : decode cL_law 27 = .ok (.iconst 3, 1) := by decide +kernel
theorem dL_law_28 : decode cL_law 28 = .ok (.isub, 1) := by decide +kernel
theorem dL_law_29 : decode cL_law 29 = .ok (.if_icmp .gt 1371, 3) := by decide +kernel
theorem dL_law_32 : decode cL_law 32 = .ok (.aload_n 0, 1) := by decide +kernel
theorem dL_law_33 : decode cL_law 33 = .ok (.iload 4, 2) := by decide +kernel
theorem dL_law_35 : decode cL_law 35 = .ok (.iaload, 1) := by decide +kernel
theorem dL_law_36 : decode cL_law 36 = .ok (.bipush 31, 2) := by decide +kernel
theorem dL_law_38 : decode cL_law 38 = .ok (.iand, 1) := by decide +kernel
theorem dL_law_39 : decode cL_law 39 = .ok (.tableswitch 1355 0 24 #[113, 157, 213, 281, 337, 393, 449, 540, 608, 664, 720, 776, 832, 888, 956, 1024, 1092, 1105, 1118, 1174, 1230, 1271, 1284, 1297, 1341], 113) := by decide +kernel
theorem dL_law_152 : decode cL_law 152 = .ok (.aload_n 1, 1) := by decide +kernel
theorem dL_law_153 : decode cL_law 153 = .ok (.aload_n 3, 1) := by decide +kernel
theorem dL_law_154 : decode cL_law 154 = .ok (.invokestatic 80, 3) := by decide +kernel
theorem dL_law_157 : decode cL_law 157 = .ok (.istore 5, 2) := by decide +kernel
theorem dL_law_159 : decode cL_law 159 = .ok (.aload_n 2, 1) := by decide +kernel
theorem dL_law_160 : decode cL_law 160 = .ok (.invokevirtual 85, 3) := by decide +kernel
theorem dL_law_163 : decode cL_law 163 = .ok (.istore 6, 2) := by decide +kernel
theorem dL_law_165 : decode cL_law 165 = .ok (.aload_n 2, 1) := by decide +kernel
theorem dL_law_166 : decode cL_law 166 = .ok (.invokevirtual 86, 3) := by decide +kernel
theorem dL_law_169 : decode cL_law 169 = .ok (.iload 5, 2) := by decide +kernel
theorem dL_law_171 : decode cL_law 171 = .ok (.if_icmp .eq 5, 3) := by decide +kernel
theorem dL_law_174 : decode cL_law 174 = .ok (.iconst 0, 1) := by decide +kernel
theorem dL_law_175 : decode cL_law 175 = .ok (.ireturn, 1) := by decide +kernel
theorem dL_law_176 : decode cL_law 176 = .ok (.iload 5, 2) := by decide +kernel
theorem dL_law_178 : decode cL_law 178 = .ok (.ifCond .ne 15, 3) := by decide +kernel
theorem dL_law_181 : decode cL_law 181 = .ok (.aload_n 3, 1) := by decide +kernel
theorem dL_law_182 : decode cL_law 182 = .ok (.iconst 0, 1) := by decide +kernel
theorem dL_law_183 : decode cL_law 183 = .ok (.laload, 1) := by decide +kernel
theorem dL_law_184 : decode cL_law 184 = .ok (.iload 6, 2) := by decide +kernel
theorem dL_law_186 : decode cL_law 186 = .ok (.i2l, 1) := by decide +kernel
theorem dL_law_187 : decode cL_law 187 = .ok (.lcmp, 1) := by decide +kernel
theorem dL_law_188 : decode cL_law 188 = .ok (.ifCond .eq 5, 3) := by decide +kernel
theorem dL_law_191 : decode cL_law 191 = .ok (.iconst 0, 1) := by decide +kernel
theorem dL_law_192 : decode cL_law 192 = .ok (.ireturn, 1) := by decide +kernel
theorem dL_law_193 : decode cL_law 193 = .ok (.goto 1201, 3) := by decide +kernel
theorem dL_law_196 : decode cL_law 196 = .ok (.aload_n 1, 1) := by decide +kernel
theorem dL_law_197 : decode cL_law 197 = .ok (.aload_n 0, 1) := by decide +kernel
theorem dL_law_198 : decode cL_law 198 = .ok (.iload 4, 2) := by decide +kernel
theorem dL_law_200 : decode cL_law 200 = .ok (.iconst 1, 1) := by decide +kernel
theorem dL_law_201 : decode cL_law 201 = .ok (.iadd, 1) := by decide +kernel
theorem dL_law_202 : decode cL_law 202 = .ok (.iaload, 1) := by decide +kernel
theorem dL_law_203 : decode cL_law 203 = .ok (.aload_n 3, 1) := by decide +kernel
theorem dL_law_204 : decode cL_law 204 = .ok (.invokestatic 89, 3) := by decide +kernel
theorem dL_law_207 : decode cL_law 207 = .ok (.istore 5, 2) := by decide +kernel
theorem dL_law_209 : decode cL_law 209 = .ok (.aload_n 2, 1) := by decide +kernel
theorem dL_law_210 : decode cL_law 210 = .ok (.aload_n 0, 1) := by decide +kernel
theorem dL_law_211 : decode cL_law 211 = .ok (.iload 4, 2) := by decide +kernel
theorem dL_law_213 : decode cL_law 213 = .ok (.iconst 1, 1) := by decide +kernel
theorem dL_law_214 : decode cL_law 214 = .ok (.iadd, 1) := by decide +kernel
theorem dL_law_215 : decode cL_law 215 = .ok (.iaload, 1) := by decide +kernel
theorem dL_law_216 : decode cL_law 216 = .ok (.invokevirtual 92, 3) := by decide +kernel
theorem dL_law_219 : decode cL_law 219 = .ok (.istore 6, 2) := by decide +kernel
theorem dL_law_221 : decode cL_law 221 = .ok (.aload_n 2, 1) := by decide +kernel
theorem dL_law_222 : decode cL_law 222 = .ok (.invokevirtual 86, 3) := by decide +kernel
theorem dL_law_225 : decode cL_law 225 = .ok (.iload 5, 2) := by decide +kernel
theorem dL_law_227 : decode cL_law 227 = .ok (.if_icmp .eq 5, 3) := by decide +kernel
theorem dL_law_230 : decode cL_law 230 = .ok (.iconst 0, 1) := by decide +kernel
theorem dL_law_231 : decode cL_law 231 = .ok (.ireturn, 1) := by decide +kernel
theorem dL_law_232 : decode cL_law 232 = .ok (.iload 5, 2) := by decide +kernel
theorem dL_law_234 : decode cL_law 234 = .ok (.ifCond .ne 15, 3) := by decide +kernel
theorem dL_law_237 : decode cL_law 237 = .ok (.aload_n 3, 1) := by decide +kernel
theorem dL_law_238 : decode cL_law 238 = .ok (.iconst 0, 1) := by decide +kernel
theorem dL_law_239 : decode cL_law 239 = .ok (.laload, 1) := by decide +kernel
theorem dL_law_240 : decode cL_law 240 = .ok (.iload 6, 2) := by decide +kernel
theorem dL_law_242 : decode cL_law 242 = .ok (.i2l, 1) := by decide +kernel
theorem dL_law_243 : decode cL_law 243 = .ok (.lcmp, 1) := by decide +kernel
theorem dL_law_244 : decode cL_law 244 = .ok (.ifCond .eq 5, 3) := by decide +kernel
theorem dL_law_247 : decode cL_law 247 = .ok (.iconst 0, 1) := by decide +kernel
theorem dL_law_248 : decode cL_law 248 = .ok (.ireturn, 1) := by decide +kernel
theorem dL_law_249 : decode cL_law 249 = .ok (.goto 1145, 3) := by decide +kernel
theorem dL_law_252 : decode cL_law 252 = .ok (.aload_n 1, 1) := by decide +kernel
theorem dL_law_253 : decode cL_law 253 = .ok (.aload_n 0, 1) := by decide +kernel
theorem dL_law_254 : decode cL_law 254 = .ok (.iload 4, 2) := by decide +kernel
theorem dL_law_256 : decode cL_law 256 = .ok (.iconst 1, 1) := by decide +kernel
theorem dL_law_257 : decode cL_law 257 = .ok (.iadd, 1) := by decide +kernel
theorem dL_law_258 : decode cL_law 258 = .ok (.iaload, 1) := by decide +kernel
theorem dL_law_259 : decode cL_law 259 = .ok (.aload_n 0, 1) := by decide +kernel
theorem dL_law_260 : decode cL_law 260 = .ok (.iload 4, 2) := by decide +kernel
theorem dL_law_262 : decode cL_law 262 = .ok (.iconst 2, 1) := by decide +kernel
theorem dL_law_263 : decode cL_law 263 = .ok (.iadd, 1) := by decide +kernel
theorem dL_law_264 : decode cL_law 264 = .ok (.iaload, 1) := by decide +kernel
theorem dL_law_265 : decode cL_law 265 = .ok (.aload_n 3, 1) := by decide +kernel
theorem dL_law_266 : decode cL_law 266 = .ok (.invokestatic 93, 3) := by decide +kernel
theorem dL_law_269 : decode cL_law 269 = .ok (.istore 5, 2) := by decide +kernel
theorem dL_law_271 : decode cL_law 271 = .ok (.aload_n 2, 1) := by decide +kernel
theorem dL_law_272 : decode cL_law 272 = .ok (.aload_n 0, 1) := by decide +kernel
theorem dL_law_273 : decode cL_law 273 = .ok (.iload 4, 2) := by decide +kernel
theorem dL_law_275 : decode cL_law 275 = .ok (.iconst 1, 1) := by decide +kernel
theorem dL_law_276 : decode cL_law 276 = .ok (.iadd, 1) := by decide +kernel
theorem dL_law_277 : decode cL_law 277 = .ok (.iaload, 1) := by decide +kernel
theorem dL_law_278 : decode cL_law 278 = .ok (.aload_n 0, 1) := by decide +kernel
theorem dL_law_279 : decode cL_law 279 = .ok (.iload 4, 2) := by decide +kernel
theorem dL_law_281 : decode cL_law 281 = .ok (.iconst 2, 1) := by decide +kernel
theorem dL_law_282 : decode cL_law 282 = .ok (.iadd, 1) := by decide +kernel
theorem dL_law_283 : decode cL_law 283 = .ok (.iaload, 1) := by decide +kernel
theorem dL_law_284 : decode cL_law 284 = .ok (.invokevirtual 96, 3) := by decide +kernel
theorem dL_law_287 : decode cL_law 287 = .ok (.istore 6, 2) := by decide +kernel
theorem dL_law_289 : decode cL_law 289 = .ok (.aload_n 2, 1) := by decide +kernel
theorem dL_law_290 : decode cL_law 290 = .ok (.invokevirtual 86, 3) := by decide +kernel
theorem dL_law_293 : decode cL_law 293 = .ok (.iload 5, 2) := by decide +kernel
theorem dL_law_295 : decode cL_law 295 = .ok (.if_icmp .eq 5, 3) := by decide +kernel
theorem dL_law_298 : decode cL_law 298 = .ok (.iconst 0, 1) := by decide +kernel
theorem dL_law_299 : decode cL_law 299 = .ok (.ireturn, 1) := by decide +kernel
theorem dL_law_300 : decode cL_law 300 = .ok (.iload 5, 2) := by decide +kernel
theorem dL_law_302 : decode cL_law 302 = .ok (.ifCond .ne 15, 3) := by decide +kernel
theorem dL_law_305 : decode cL_law 305 = .ok (.aload_n 3, 1) := by decide +kernel
theorem dL_law_306 : decode cL_law 306 = .ok (.iconst 0, 1) := by decide +kernel
theorem dL_law_307 : decode cL_law 307 = .ok (.laload, 1) := by decide +kernel
theorem dL_law_308 : decode cL_law 308 = .ok (.iload 6, 2) := by decide +kernel
theorem dL_law_310 : decode cL_law 310 = .ok (.i2l, 1) := by decide +kernel
theorem dL_law_311 : decode cL_law 311 = .ok (.lcmp, 1) := by decide +kernel
theorem dL_law_312 : decode cL_law 312 = .ok (.ifCond .eq 5, 3) := by decide +kernel
theorem dL_law_315 : decode cL_law 315 = .ok (.iconst 0, 1) := by decide +kernel
theorem dL_law_316 : decode cL_law 316 = .ok (.ireturn, 1) := by decide +kernel
theorem dL_law_317 : decode cL_law 317 = .ok (.goto 1077, 3) := by decide +kernel
theorem dL_law_320 : decode cL_law 320 = .ok (.aload_n 1, 1) := by decide +kernel
theorem dL_law_321 : decode cL_law 321 = .ok (.aload_n 0, 1) := by decide +kernel
theorem dL_law_322 : decode cL_law 322 = .ok (.iload 4, 2) := by decide +kernel
theorem dL_law_324 : decode cL_law 324 = .ok (.iconst 1, 1) := by decide +kernel
theorem dL_law_325 : decode cL_law 325 = .ok (.iadd, 1) := by decide +kernel
theorem dL_law_326 : decode cL_law 326 = .ok (.iaload, 1) := by decide +kernel
theorem dL_law_327 : decode cL_law 327 = .ok (.aload_n 3, 1) := by decide +kernel
theorem dL_law_328 : decode cL_law 328 = .ok (.invokestatic 97, 3) := by decide +kernel
theorem dL_law_331 : decode cL_law 331 = .ok (.istore 5, 2) := by decide +kernel
theorem dL_law_333 : decode cL_law 333 = .ok (.aload_n 2, 1) := by decide +kernel
theorem dL_law_334 : decode cL_law 334 = .ok (.aload_n 0, 1) := by decide +kernel
theorem dL_law_335 : decode cL_law 335 = .ok (.iload 4, 2) := by decide +kernel
theorem dL_law_337 : decode cL_law 337 = .ok (.iconst 1, 1) := by decide +kernel
theorem dL_law_338 : decode cL_law 338 = .ok (.iadd, 1) := by decide +kernel
theorem dL_law_339 : decode cL_law 339 = .ok (.iaload, 1) := by decide +kernel
theorem dL_law_340 : decode cL_law 340 = .ok (.invokevirtual 99, 3) := by decide +kernel
theorem dL_law_343 : decode cL_law 343 = .ok (.istore 6, 2) := by decide +kernel
theorem dL_law_345 : decode cL_law 345 = .ok (.aload_n 2, 1) := by decide +kernel
theorem dL_law_346 : decode cL_law 346 = .ok (.invokevirtual 86, 3) := by decide +kernel
theorem dL_law_349 : decode cL_law 349 = .ok (.iload 5, 2) := by decide +kernel
theorem dL_law_351 : decode cL_law 351 = .ok (.if_icmp .eq 5, 3) := by decide +kernel
theorem dL_law_354 : decode cL_law 354 = .ok (.iconst 0, 1) := by decide +kernel
theorem dL_law_355 : decode cL_law 355 = .ok (.ireturn, 1) := by decide +kernel
theorem dL_law_356 : decode cL_law 356 = .ok (.iload 5, 2) := by decide +kernel
theorem dL_law_358 : decode cL_law 358 = .ok (.ifCond .ne 15, 3) := by decide +kernel
theorem dL_law_361 : decode cL_law 361 = .ok (.aload_n 3, 1) := by decide +kernel
theorem dL_law_362 : decode cL_law 362 = .ok (.iconst 0, 1) := by decide +kernel
theorem dL_law_363 : decode cL_law 363 = .ok (.laload, 1) := by decide +kernel
theorem dL_law_364 : decode cL_law 364 = .ok (.iload 6, 2) := by decide +kernel
theorem dL_law_366 : decode cL_law 366 = .ok (.i2l, 1) := by decide +kernel
theorem dL_law_367 : decode cL_law 367 = .ok (.lcmp, 1) := by decide +kernel
theorem dL_law_368 : decode cL_law 368 = .ok (.ifCond .eq 5, 3) := by decide +kernel
theorem dL_law_371 : decode cL_law 371 = .ok (.iconst 0, 1) := by decide +kernel
theorem dL_law_372 : decode cL_law 372 = .ok (.ireturn, 1) := by decide +kernel
theorem dL_law_373 : decode cL_law 373 = .ok (.goto 1021, 3) := by decide +kernel
theorem dL_law_376 : decode cL_law 376 = .ok (.aload_n 1, 1) := by decide +kernel
theorem dL_law_377 : decode cL_law 377 = .ok (.aload_n 0, 1) := by decide +kernel
theorem dL_law_378 : decode cL_law 378 = .ok (.iload 4, 2) := by decide +kernel
theorem dL_law_380 : decode cL_law 380 = .ok (.iconst 1, 1) := by decide +kernel
theorem dL_law_381 : decode cL_law 381 = .ok (.iadd, 1) := by decide +kernel
theorem dL_law_382 : decode cL_law 382 = .ok (.iaload, 1) := by decide +kernel
theorem dL_law_383 : decode cL_law 383 = .ok (.aload_n 3, 1) := by decide +kernel
theorem dL_law_384 : decode cL_law 384 = .ok (.invokestatic 100, 3) := by decide +kernel
theorem dL_law_387 : decode cL_law 387 = .ok (.istore 5, 2) := by decide +kernel
theorem dL_law_389 : decode cL_law 389 = .ok (.aload_n 2, 1) := by decide +kernel
theorem dL_law_390 : decode cL_law 390 = .ok (.aload_n 0, 1) := by decide +kernel
theorem dL_law_391 : decode cL_law 391 = .ok (.iload 4, 2) := by decide +kernel
theorem dL_law_393 : decode cL_law 393 = .ok (.iconst 1, 1) := by decide +kernel
theorem dL_law_394 : decode cL_law 394 = .ok (.iadd, 1) := by decide +kernel
theorem dL_law_395 : decode cL_law 395 = .ok (.iaload, 1) := by decide +kernel
theorem dL_law_396 : decode cL_law 396 = .ok (.invokevirtual 102, 3) := by decide +kernel
theorem dL_law_399 : decode cL_law 399 = .ok (.istore 6, 2) := by decide +kernel
theorem dL_law_401 : decode cL_law 401 = .ok (.aload_n 2, 1) := by decide +kernel
theorem dL_law_402 : decode cL_law 402 = .ok (.invokevirtual 86, 3) := by decide +kernel
theorem dL_law_405 : decode cL_law 405 = .ok (.iload 5, 2) := by decide +kernel
theorem dL_law_407 : decode cL_law 407 = .ok (.if_icmp .eq 5, 3) := by decide +kernel
theorem dL_law_410 : decode cL_law 410 = .ok (.iconst 0, 1) := by decide +kernel
theorem dL_law_411 : decode cL_law 411 = .ok (.ireturn, 1) := by decide +kernel
theorem dL_law_412 : decode cL_law 412 = .ok (.iload 5, 2) := by decide +kernel
theorem dL_law_414 : decode cL_law 414 = .ok (.ifCond .ne 15, 3) := by decide +kernel
theorem dL_law_417 : decode cL_law 417 = .ok (.aload_n 3, 1) := by decide +kernel
theorem dL_law_418 : decode cL_law 418 = .ok (.iconst 0, 1) := by decide +kernel
theorem dL_law_419 : decode cL_law 419 = .ok (.laload, 1) := by decide +kernel
theorem dL_law_420 : decode cL_law 420 = .ok (.iload 6, 2) := by decide +kernel
theorem dL_law_422 : decode cL_law 422 = .ok (.i2l, 1) := by decide +kernel
theorem dL_law_423 : decode cL_law 423 = .ok (.lcmp, 1) := by decide +kernel
theorem dL_law_424 : decode cL_law 424 = .ok (.ifCond .eq 5, 3) := by decide +kernel
theorem dL_law_427 : decode cL_law 427 = .ok (.iconst 0, 1) := by decide +kernel
theorem dL_law_428 : decode cL_law 428 = .ok (.ireturn, 1) := by decide +kernel
theorem dL_law_429 : decode cL_law 429 = .ok (.goto 965, 3) := by decide +kernel
theorem dL_law_432 : decode cL_law 432 = .ok (.aload_n 1, 1) := by decide +kernel
theorem dL_law_433 : decode cL_law 433 = .ok (.aload_n 0, 1) := by decide +kernel
theorem dL_law_434 : decode cL_law 434 = .ok (.iload 4, 2) := by decide +kernel
theorem dL_law_436 : decode cL_law 436 = .ok (.iconst 1, 1) := by decide +kernel
theorem dL_law_437 : decode cL_law 437 = .ok (.iadd, 1) := by decide +kernel
theorem dL_law_438 : decode cL_law 438 = .ok (.iaload, 1) := by decide +kernel
theorem dL_law_439 : decode cL_law 439 = .ok (.aload_n 3, 1) := by decide +kernel
theorem dL_law_440 : decode cL_law 440 = .ok (.invokestatic 103, 3) := by decide +kernel
theorem dL_law_443 : decode cL_law 443 = .ok (.istore 5, 2) := by decide +kernel
theorem dL_law_445 : decode cL_law 445 = .ok (.aload_n 2, 1) := by decide +kernel
theorem dL_law_446 : decode cL_law 446 = .ok (.aload_n 0, 1) := by decide +kernel
theorem dL_law_447 : decode cL_law 447 = .ok (.iload 4, 2) := by decide +kernel
theorem dL_law_449 : decode cL_law 449 = .ok (.iconst 1, 1) := by decide +kernel
theorem dL_law_450 : decode cL_law 450 = .ok (.iadd, 1) := by decide +kernel
theorem dL_law_451 : decode cL_law 451 = .ok (.iaload, 1) := by decide +kernel
theorem dL_law_452 : decode cL_law 452 = .ok (.invokevirtual 105, 3) := by decide +kernel
theorem dL_law_455 : decode cL_law 455 = .ok (.istore 6, 2) := by decide +kernel
theorem dL_law_457 : decode cL_law 457 = .ok (.aload_n 2, 1) := by decide +kernel
theorem dL_law_458 : decode cL_law 458 = .ok (.invokevirtual 86, 3) := by decide +kernel
theorem dL_law_461 : decode cL_law 461 = .ok (.iload 5, 2) := by decide +kernel
theorem dL_law_463 : decode cL_law 463 = .ok (.if_icmp .eq 5, 3) := by decide +kernel
theorem dL_law_466 : decode cL_law 466 = .ok (.iconst 0, 1) := by decide +kernel
theorem dL_law_467 : decode cL_law 467 = .ok (.ireturn, 1) := by decide +kernel
theorem dL_law_468 : decode cL_law 468 = .ok (.iload 5, 2) := by decide +kernel
theorem dL_law_470 : decode cL_law 470 = .ok (.ifCond .ne 15, 3) := by decide +kernel
theorem dL_law_473 : decode cL_law 473 = .ok (.aload_n 3, 1) := by decide +kernel
theorem dL_law_474 : decode cL_law 474 = .ok (.iconst 0, 1) := by decide +kernel
theorem dL_law_475 : decode cL_law 475 = .ok (.laload, 1) := by decide +kernel
theorem dL_law_476 : decode cL_law 476 = .ok (.iload 6, 2) := by decide +kernel
theorem dL_law_478 : decode cL_law 478 = .ok (.i2l, 1) := by decide +kernel
theorem dL_law_479 : decode cL_law 479 = .ok (.lcmp, 1) := by decide +kernel
theorem dL_law_480 : decode cL_law 480 = .ok (.ifCond .eq 5, 3) := by decide +kernel
theorem dL_law_483 : decode cL_law 483 = .ok (.iconst 0, 1) := by decide +kernel
theorem dL_law_484 : decode cL_law 484 = .ok (.ireturn, 1) := by decide +kernel
theorem dL_law_485 : decode cL_law 485 = .ok (.goto 909, 3) := by decide +kernel
theorem dL_law_488 : decode cL_law 488 = .ok (.aload_n 1, 1) := by decide +kernel
theorem dL_law_489 : decode cL_law 489 = .ok (.aload_n 0, 1) := by decide +kernel
theorem dL_law_490 : decode cL_law 490 = .ok (.iload 4, 2) := by decide +kernel
theorem dL_law_492 : decode cL_law 492 = .ok (.iconst 1, 1) := by decide +kernel
theorem dL_law_493 : decode cL_law 493 = .ok (.iadd, 1) := by decide +kernel
theorem dL_law_494 : decode cL_law 494 = .ok (.iaload, 1) := by decide +kernel
theorem dL_law_495 : decode cL_law 495 = .ok (.aload_n 0, 1) := by decide +kernel
theorem dL_law_496 : decode cL_law 496 = .ok (.iload 4, 2) := by decide +kernel
theorem dL_law_498 : decode cL_law 498 = .ok (.iconst 2, 1) := by decide +kernel
theorem dL_law_499 : decode cL_law 499 = .ok (.iadd, 1) := by decide +kernel
theorem dL_law_500 : decode cL_law 500 = .ok (.iaload, 1) := by decide +kernel
theorem dL_law_501 : decode cL_law 501 = .ok (.ifCond .eq 7, 3) := by decide +kernel
theorem dL_law_504 : decode cL_law 504 = .ok (.iconst 1, 1) := by decide +kernel
theorem dL_law_505 : decode cL_law 505 = .ok (.goto 4, 3) := by decide +kernel
theorem dL_law_508 : decode cL_law 508 = .ok (.iconst 0, 1) := by decide +kernel
theorem dL_law_509 : decode cL_law 509 = .ok (.aload_n 3, 1) := by decide +kernel
theorem dL_law_510 : decode cL_law 510 = .ok (.invokestatic 106, 3) := by decide +kernel
theorem dL_law_513 : decode cL_law 513 = .ok (.istore 5, 2) := by decide +kernel
theorem dL_law_515 : decode cL_law 515 = .ok (.aload_n 2, 1) := by decide +kernel
theorem dL_law_516 : decode cL_law 516 = .ok (.aload_n 0, 1) := by decide +kernel
theorem dL_law_517 : decode cL_law 517 = .ok (.iload 4, 2) := by decide +kernel
theorem dL_law_519 : decode cL_law 519 = .ok (.iconst 1, 1) := by decide +kernel
theorem dL_law_520 : decode cL_law 520 = .ok (.iadd, 1) := by decide +kernel
theorem dL_law_521 : decode cL_law 521 = .ok (.iaload, 1) := by decide +kernel
theorem dL_law_522 : decode cL_law 522 = .ok (.aload_n 0, 1) := by decide +kernel
theorem dL_law_523 : decode cL_law 523 = .ok (.iload 4, 2) := by decide +kernel
theorem dL_law_525 : decode cL_law 525 = .ok (.iconst 2, 1) := by decide +kernel
theorem dL_law_526 : decode cL_law 526 = .ok (.iadd, 1) := by decide +kernel
theorem dL_law_527 : decode cL_law 527 = .ok (.iaload, 1) := by decide +kernel
theorem dL_law_528 : decode cL_law 528 = .ok (.ifCond .eq 7, 3) := by decide +kernel
theorem dL_law_531 : decode cL_law 531 = .ok (.iconst 1, 1) := by decide +kernel
theorem dL_law_532 : decode cL_law 532 = .ok (.goto 4, 3) := by decide +kernel
theorem dL_law_535 : decode cL_law 535 = .ok (.iconst 0, 1) := by decide +kernel
theorem dL_law_536 : decode cL_law 536 = .ok (.invokevirtual 109, 3) := by decide +kernel
theorem dL_law_539 : decode cL_law 539 = .ok (.istore 6, 2) := by decide +kernel
theorem dL_law_541 : decode cL_law 541 = .ok (.aload_n 2, 1) := by decide +kernel
theorem dL_law_542 : decode cL_law 542 = .ok (.invokevirtual 86, 3) := by decide +kernel
theorem dL_law_545 : decode cL_law 545 = .ok (.iload 5, 2) := by decide +kernel
theorem dL_law_547 : decode cL_law 547 = .ok (.if_icmp .eq 5, 3) := by decide +kernel
theorem dL_law_550 : decode cL_law 550 = .ok (.iconst 0, 1) := by decide +kernel
theorem dL_law_551 : decode cL_law 551 = .ok (.ireturn, 1) := by decide +kernel
theorem dL_law_552 : decode cL_law 552 = .ok (.iload 5, 2) := by decide +kernel
theorem dL_law_554 : decode cL_law 554 = .ok (.ifCond .ne 22, 3) := by decide +kernel
theorem dL_law_557 : decode cL_law 557 = .ok (.aload_n 3, 1) := by decide +kernel
theorem dL_law_558 : decode cL_law 558 = .ok (.iconst 0, 1) := by decide +kernel
theorem dL_law_559 : decode cL_law 559 = .ok (.laload, 1) := by decide +kernel
theorem dL_law_560 : decode cL_law 560 = .ok (.iload 6, 2) := by decide +kernel
theorem dL_law_562 : decode cL_law 562 = .ok (.ifCond .eq 7, 3) := by decide +kernel
theorem dL_law_565 : decode cL_law 565 = .ok (.lconst 1, 1) := by decide +kernel
theorem dL_law_566 : decode cL_law 566 = .ok (.goto 4, 3) := by decide +kernel
theorem dL_law_569 : decode cL_law 569 = .ok (.lconst 0, 1) := by decide +kernel
theorem dL_law_570 : decode cL_law 570 = .ok (.lcmp, 1) := by decide +kernel
theorem dL_law_571 : decode cL_law 571 = .ok (.ifCond .eq 5, 3) := by decide +kernel
theorem dL_law_574 : decode cL_law 574 = .ok (.iconst 0, 1) := by decide +kernel
theorem dL_law_575 : decode cL_law 575 = .ok (.ireturn, 1) := by decide +kernel
theorem dL_law_576 : decode cL_law 576 = .ok (.goto 818, 3) := by decide +kernel
theorem dL_law_579 : decode cL_law 579 = .ok (.aload_n 1, 1) := by decide +kernel
theorem dL_law_580 : decode cL_law 580 = .ok (.aload_n 0, 1) := by decide +kernel
theorem dL_law_581 : decode cL_law 581 = .ok (.iload 4, 2) := by decide +kernel
theorem dL_law_583 : decode cL_law 583 = .ok (.iconst 1, 1) := by decide +kernel
theorem dL_law_584 : decode cL_law 584 = .ok (.iadd, 1) := by decide +kernel
theorem dL_law_585 : decode cL_law 585 = .ok (.iaload, 1) := by decide +kernel
theorem dL_law_586 : decode cL_law 586 = .ok (.aload_n 0, 1) := by decide +kernel
theorem dL_law_587 : decode cL_law 587 = .ok (.iload 4, 2) := by decide +kernel
theorem dL_law_589 : decode cL_law 589 = .ok (.iconst 2, 1) := by decide +kernel
theorem dL_law_590 : decode cL_law 590 = .ok (.iadd, 1) := by decide +kernel
theorem dL_law_591 : decode cL_law 591 = .ok (.iaload, 1) := by decide +kernel
theorem dL_law_592 : decode cL_law 592 = .ok (.aload_n 3, 1) := by decide +kernel
theorem dL_law_593 : decode cL_law 593 = .ok (.invokestatic 110, 3) := by decide +kernel
theorem dL_law_596 : decode cL_law 596 = .ok (.istore 5, 2) := by decide +kernel
theorem dL_law_598 : decode cL_law 598 = .ok (.aload_n 2, 1) := by decide +kernel
theorem dL_law_599 : decode cL_law 599 = .ok (.aload_n 0, 1) := by decide +kernel
theorem dL_law_600 : decode cL_law 600 = .ok (.iload 4, 2) := by decide +kernel
theorem dL_law_602 : decode cL_law 602 = .ok (.iconst 1, 1) := by decide +kernel
theorem dL_law_603 : decode cL_law 603 = .ok (.iadd, 1) := by decide +kernel
theorem dL_law_604 : decode cL_law 604 = .ok (.iaload, 1) := by decide +kernel
theorem dL_law_605 : decode cL_law 605 = .ok (.aload_n 0, 1) := by decide +kernel
theorem dL_law_606 : decode cL_law 606 = .ok (.iload 4, 2) := by decide +kernel
theorem dL_law_608 : decode cL_law 608 = .ok (.iconst 2, 1) := by decide +kernel
theorem dL_law_609 : decode cL_law 609 = .ok (.iadd, 1) := by decide +kernel
theorem dL_law_610 : decode cL_law 610 = .ok (.iaload, 1) := by decide +kernel
theorem dL_law_611 : decode cL_law 611 = .ok (.invokevirtual 112, 3) := by decide +kernel
theorem dL_law_614 : decode cL_law 614 = .ok (.istore 6, 2) := by decide +kernel
theorem dL_law_616 : decode cL_law 616 = .ok (.aload_n 2, 1) := by decide +kernel
theorem dL_law_617 : decode cL_law 617 = .ok (.invokevirtual 86, 3) := by decide +kernel
theorem dL_law_620 : decode cL_law 620 = .ok (.iload 5, 2) := by decide +kernel
theorem dL_law_622 : decode cL_law 622 = .ok (.if_icmp .eq 5, 3) := by decide +kernel
theorem dL_law_625 : decode cL_law 625 = .ok (.iconst 0, 1) := by decide +kernel
theorem dL_law_626 : decode cL_law 626 = .ok (.ireturn, 1) := by decide +kernel
theorem dL_law_627 : decode cL_law 627 = .ok (.iload 5, 2) := by decide +kernel
theorem dL_law_629 : decode cL_law 629 = .ok (.ifCond .ne 15, 3) := by decide +kernel
theorem dL_law_632 : decode cL_law 632 = .ok (.aload_n 3, 1) := by decide +kernel
theorem dL_law_633 : decode cL_law 633 = .ok (.iconst 0, 1) := by decide +kernel
theorem dL_law_634 : decode cL_law 634 = .ok (.laload, 1) := by decide +kernel
theorem dL_law_635 : decode cL_law 635 = .ok (.iload 6, 2) := by decide +kernel
theorem dL_law_637 : decode cL_law 637 = .ok (.i2l, 1) := by decide +kernel
theorem dL_law_638 : decode cL_law 638 = .ok (.lcmp, 1) := by decide +kernel
theorem dL_law_639 : decode cL_law 639 = .ok (.ifCond .eq 5, 3) := by decide +kernel
theorem dL_law_642 : decode cL_law 642 = .ok (.iconst 0, 1) := by decide +kernel
theorem dL_law_643 : decode cL_law 643 = .ok (.ireturn, 1) := by decide +kernel
theorem dL_law_644 : decode cL_law 644 = .ok (.goto 750, 3) := by decide +kernel
theorem dL_law_647 : decode cL_law 647 = .ok (.aload_n 1, 1) := by decide +kernel
theorem dL_law_648 : decode cL_law 648 = .ok (.aload_n 0, 1) := by decide +kernel
theorem dL_law_649 : decode cL_law 649 = .ok (.iload 4, 2) := by decide +kernel
theorem dL_law_651 : decode cL_law 651 = .ok (.iconst 1, 1) := by decide +kernel
theorem dL_law_652 : decode cL_law 652 = .ok (.iadd, 1) := by decide +kernel
theorem dL_law_653 : decode cL_law 653 = .ok (.iaload, 1) := by decide +kernel
theorem dL_law_654 : decode cL_law 654 = .ok (.aload_n 3, 1) := by decide +kernel
theorem dL_law_655 : decode cL_law 655 = .ok (.invokestatic 113, 3) := by decide +kernel
theorem dL_law_658 : decode cL_law 658 = .ok (.istore 5, 2) := by decide +kernel
theorem dL_law_660 : decode cL_law 660 = .ok (.aload_n 2, 1) := by decide +kernel
theorem dL_law_661 : decode cL_law 661 = .ok (.aload_n 0, 1) := by decide +kernel
theorem dL_law_662 : decode cL_law 662 = .ok (.iload 4, 2) := by decide +kernel
theorem dL_law_664 : decode cL_law 664 = .ok (.iconst 1, 1) := by decide +kernel
theorem dL_law_665 : decode cL_law 665 = .ok (.iadd, 1) := by decide +kernel
theorem dL_law_666 : decode cL_law 666 = .ok (.iaload, 1) := by decide +kernel
theorem dL_law_667 : decode cL_law 667 = .ok (.invokevirtual 115, 3) := by decide +kernel
theorem dL_law_670 : decode cL_law 670 = .ok (.istore 6, 2) := by decide +kernel
theorem dL_law_672 : decode cL_law 672 = .ok (.aload_n 2, 1) := by decide +kernel
theorem dL_law_673 : decode cL_law 673 = .ok (.invokevirtual 86, 3) := by decide +kernel
theorem dL_law_676 : decode cL_law 676 = .ok (.iload 5, 2) := by decide +kernel
theorem dL_law_678 : decode cL_law 678 = .ok (.if_icmp .eq 5, 3) := by decide +kernel
theorem dL_law_681 : decode cL_law 681 = .ok (.iconst 0, 1) := by decide +kernel
theorem dL_law_682 : decode cL_law 682 = .ok (.ireturn, 1) := by decide +kernel
theorem dL_law_683 : decode cL_law 683 = .ok (.iload 5, 2) := by decide +kernel
theorem dL_law_685 : decode cL_law 685 = .ok (.ifCond .ne 15, 3) := by decide +kernel
theorem dL_law_688 : decode cL_law 688 = .ok (.aload_n 3, 1) := by decide +kernel
theorem dL_law_689 : decode cL_law 689 = .ok (.iconst 0, 1) := by decide +kernel
theorem dL_law_690 : decode cL_law 690 = .ok (.laload, 1) := by decide +kernel
theorem dL_law_691 : decode cL_law 691 = .ok (.iload 6, 2) := by decide +kernel
theorem dL_law_693 : decode cL_law 693 = .ok (.i2l, 1) := by decide +kernel
theorem dL_law_694 : decode cL_law 694 = .ok (.lcmp, 1) := by decide +kernel
theorem dL_law_695 : decode cL_law 695 = .ok (.ifCond .eq 5, 3) := by decide +kernel
theorem dL_law_698 : decode cL_law 698 = .ok (.iconst 0, 1) := by decide +kernel
theorem dL_law_699 : decode cL_law 699 = .ok (.ireturn, 1) := by decide +kernel
theorem dL_law_700 : decode cL_law 700 = .ok (.goto 694, 3) := by decide +kernel
theorem dL_law_703 : decode cL_law 703 = .ok (.aload_n 1, 1) := by decide +kernel
theorem dL_law_704 : decode cL_law 704 = .ok (.aload_n 0, 1) := by decide +kernel
theorem dL_law_705 : decode cL_law 705 = .ok (.iload 4, 2) := by decide +kernel
theorem dL_law_707 : decode cL_law 707 = .ok (.iconst 1, 1) := by decide +kernel
theorem dL_law_708 : decode cL_law 708 = .ok (.iadd, 1) := by decide +kernel
theorem dL_law_709 : decode cL_law 709 = .ok (.iaload, 1) := by decide +kernel
theorem dL_law_710 : decode cL_law 710 = .ok (.aload_n 3, 1) := by decide +kernel
theorem dL_law_711 : decode cL_law 711 = .ok (.invokestatic 116, 3) := by decide +kernel
theorem dL_law_714 : decode cL_law 714 = .ok (.istore 5, 2) := by decide +kernel
theorem dL_law_716 : decode cL_law 716 = .ok (.aload_n 2, 1) := by decide +kernel
theorem dL_law_717 : decode cL_law 717 = .ok (.aload_n 0, 1) := by decide +kernel
theorem dL_law_718 : decode cL_law 718 = .ok (.iload 4, 2) := by decide +kernel
theorem dL_law_720 : decode cL_law 720 = .ok (.iconst 1, 1) := by decide +kernel
theorem dL_law_721 : decode cL_law 721 = .ok (.iadd, 1) := by decide +kernel
theorem dL_law_722 : decode cL_law 722 = .ok (.iaload, 1) := by decide +kernel
theorem dL_law_723 : decode cL_law 723 = .ok (.invokevirtual 118, 3) := by decide +kernel
theorem dL_law_726 : decode cL_law 726 = .ok (.istore 6, 2) := by decide +kernel
theorem dL_law_728 : decode cL_law 728 = .ok (.aload_n 2, 1) := by decide +kernel
theorem dL_law_729 : decode cL_law 729 = .ok (.invokevirtual 86, 3) := by decide +kernel
theorem dL_law_732 : decode cL_law 732 = .ok (.iload 5, 2) := by decide +kernel
theorem dL_law_734 : decode cL_law 734 = .ok (.if_icmp .eq 5, 3) := by decide +kernel
theorem dL_law_737 : decode cL_law 737 = .ok (.iconst 0, 1) := by decide +kernel
theorem dL_law_738 : decode cL_law 738 = .ok (.ireturn, 1) := by decide +kernel
theorem dL_law_739 : decode cL_law 739 = .ok (.iload 5, 2) := by decide +kernel
theorem dL_law_741 : decode cL_law 741 = .ok (.ifCond .ne 15, 3) := by decide +kernel
theorem dL_law_744 : decode cL_law 744 = .ok (.aload_n 3, 1) := by decide +kernel
theorem dL_law_745 : decode cL_law 745 = .ok (.iconst 0, 1) := by decide +kernel
theorem dL_law_746 : decode cL_law 746 = .ok (.laload, 1) := by decide +kernel
theorem dL_law_747 : decode cL_law 747 = .ok (.iload 6, 2) := by decide +kernel
theorem dL_law_749 : decode cL_law 749 = .ok (.i2l, 1) := by decide +kernel
theorem dL_law_750 : decode cL_law 750 = .ok (.lcmp, 1) := by decide +kernel
theorem dL_law_751 : decode cL_law 751 = .ok (.ifCond .eq 5, 3) := by decide +kernel
theorem dL_law_754 : decode cL_law 754 = .ok (.iconst 0, 1) := by decide +kernel
theorem dL_law_755 : decode cL_law 755 = .ok (.ireturn, 1) := by decide +kernel
theorem dL_law_756 : decode cL_law 756 = .ok (.goto 638, 3) := by decide +kernel
theorem dL_law_759 : decode cL_law 759 = .ok (.aload_n 1, 1) := by decide +kernel
theorem dL_law_760 : decode cL_law 760 = .ok (.aload_n 0, 1) := by decide +kernel
theorem dL_law_761 : decode cL_law 761 = .ok (.iload 4, 2) := by decide +kernel
theorem dL_law_763 : decode cL_law 763 = .ok (.iconst 1, 1) := by decide +kernel
theorem dL_law_764 : decode cL_law 764 = .ok (.iadd, 1) := by decide +kernel
theorem dL_law_765 : decode cL_law 765 = .ok (.iaload, 1) := by decide +kernel
theorem dL_law_766 : decode cL_law 766 = .ok (.aload_n 3, 1) := by decide +kernel
theorem dL_law_767 : decode cL_law 767 = .ok (.invokestatic 119, 3) := by decide +kernel
theorem dL_law_770 : decode cL_law 770 = .ok (.istore 5, 2) := by decide +kernel
theorem dL_law_772 : decode cL_law 772 = .ok (.aload_n 2, 1) := by decide +kernel
theorem dL_law_773 : decode cL_law 773 = .ok (.aload_n 0, 1) := by decide +kernel
theorem dL_law_774 : decode cL_law 774 = .ok (.iload 4, 2) := by decide +kernel
theorem dL_law_776 : decode cL_law 776 = .ok (.iconst 1, 1) := by decide +kernel
theorem dL_law_777 : decode cL_law 777 = .ok (.iadd, 1) := by decide +kernel
theorem dL_law_778 : decode cL_law 778 = .ok (.iaload, 1) := by decide +kernel
theorem dL_law_779 : decode cL_law 779 = .ok (.invokevirtual 121, 3) := by decide +kernel
theorem dL_law_782 : decode cL_law 782 = .ok (.istore 6, 2) := by decide +kernel
theorem dL_law_784 : decode cL_law 784 = .ok (.aload_n 2, 1) := by decide +kernel
theorem dL_law_785 : decode cL_law 785 = .ok (.invokevirtual 86, 3) := by decide +kernel
theorem dL_law_788 : decode cL_law 788 = .ok (.iload 5, 2) := by decide +kernel
theorem dL_law_790 : decode cL_law 790 = .ok (.if_icmp .eq 5, 3) := by decide +kernel
theorem dL_law_793 : decode cL_law 793 = .ok (.iconst 0, 1) := by decide +kernel
theorem dL_law_794 : decode cL_law 794 = .ok (.ireturn, 1) := by decide +kernel
theorem dL_law_795 : decode cL_law 795 = .ok (.iload 5, 2) := by decide +kernel
theorem dL_law_797 : decode cL_law 797 = .ok (.ifCond .ne 15, 3) := by decide +kernel
theorem dL_law_800 : decode cL_law 800 = .ok (.aload_n 3, 1) := by decide +kernel
theorem dL_law_801 : decode cL_law 801 = .ok (.iconst 0, 1) := by decide +kernel
theorem dL_law_802 : decode cL_law 802 = .ok (.laload, 1) := by decide +kernel
theorem dL_law_803 : decode cL_law 803 = .ok (.iload 6, 2) := by decide +kernel
theorem dL_law_805 : decode cL_law 805 = .ok (.i2l, 1) := by decide +kernel
theorem dL_law_806 : decode cL_law 806 = .ok (.lcmp, 1) := by decide +kernel
theorem dL_law_807 : decode cL_law 807 = .ok (.ifCond .eq 5, 3) := by decide +kernel
theorem dL_law_810 : decode cL_law 810 = .ok (.iconst 0, 1) := by decide +kernel
theorem dL_law_811 : decode cL_law 811 = .ok (.ireturn, 1) := by decide +kernel
theorem dL_law_812 : decode cL_law 812 = .ok (.goto 582, 3) := by decide +kernel
theorem dL_law_815 : decode cL_law 815 = .ok (.aload_n 1, 1) := by decide +kernel
theorem dL_law_816 : decode cL_law 816 = .ok (.aload_n 0, 1) := by decide +kernel
theorem dL_law_817 : decode cL_law 817 = .ok (.iload 4, 2) := by decide +kernel
theorem dL_law_819 : decode cL_law 819 = .ok (.iconst 1, 1) := by decide +kernel
theorem dL_law_820 : decode cL_law 820 = .ok (.iadd, 1) := by decide +kernel
theorem dL_law_821 : decode cL_law 821 = .ok (.iaload, 1) := by decide +kernel
theorem dL_law_822 : decode cL_law 822 = .ok (.aload_n 3, 1) := by decide +kernel
theorem dL_law_823 : decode cL_law 823 = .ok (.invokestatic 122, 3) := by decide +kernel
theorem dL_law_826 : decode cL_law 826 = .ok (.istore 5, 2) := by decide +kernel
theorem dL_law_828 : decode cL_law 828 = .ok (.aload_n 2, 1) := by decide +kernel
theorem dL_law_829 : decode cL_law 829 = .ok (.aload_n 0, 1) := by decide +kernel
theorem dL_law_830 : decode cL_law 830 = .ok (.iload 4, 2) := by decide +kernel
theorem dL_law_832 : decode cL_law 832 = .ok (.iconst 1, 1) := by decide +kernel
theorem dL_law_833 : decode cL_law 833 = .ok (.iadd, 1) := by decide +kernel
theorem dL_law_834 : decode cL_law 834 = .ok (.iaload, 1) := by decide +kernel
theorem dL_law_835 : decode cL_law 835 = .ok (.invokevirtual 124, 3) := by decide +kernel
theorem dL_law_838 : decode cL_law 838 = .ok (.istore 6, 2) := by decide +kernel
theorem dL_law_840 : decode cL_law 840 = .ok (.aload_n 2, 1) := by decide +kernel
theorem dL_law_841 : decode cL_law 841 = .ok (.invokevirtual 86, 3) := by decide +kernel
theorem dL_law_844 : decode cL_law 844 = .ok (.iload 5, 2) := by decide +kernel
theorem dL_law_846 : decode cL_law 846 = .ok (.if_icmp .eq 5, 3) := by decide +kernel
theorem dL_law_849 : decode cL_law 849 = .ok (.iconst 0, 1) := by decide +kernel
theorem dL_law_850 : decode cL_law 850 = .ok (.ireturn, 1) := by decide +kernel
theorem dL_law_851 : decode cL_law 851 = .ok (.iload 5, 2) := by decide +kernel
theorem dL_law_853 : decode cL_law 853 = .ok (.ifCond .ne 15, 3) := by decide +kernel
theorem dL_law_856 : decode cL_law 856 = .ok (.aload_n 3, 1) := by decide +kernel
theorem dL_law_857 : decode cL_law 857 = .ok (.iconst 0, 1) := by decide +kernel
theorem dL_law_858 : decode cL_law 858 = .ok (.laload, 1) := by decide +kernel
theorem dL_law_859 : decode cL_law 859 = .ok (.iload 6, 2) := by decide +kernel
theorem dL_law_861 : decode cL_law 861 = .ok (.i2l, 1) := by decide +kernel
theorem dL_law_862 : decode cL_law 862 = .ok (.lcmp, 1) := by decide +kernel
theorem dL_law_863 : decode cL_law 863 = .ok (.ifCond .eq 5, 3) := by decide +kernel
theorem dL_law_866 : decode cL_law 866 = .ok (.iconst 0, 1) := by decide +kernel
theorem dL_law_867 : decode cL_law 867 = .ok (.ireturn, 1) := by decide +kernel
theorem dL_law_868 : decode cL_law 868 = .ok (.goto 526, 3) := by decide +kernel
theorem dL_law_871 : decode cL_law 871 = .ok (.aload_n 1, 1) := by decide +kernel
theorem dL_law_872 : decode cL_law 872 = .ok (.aload_n 0, 1) := by decide +kernel
theorem dL_law_873 : decode cL_law 873 = .ok (.iload 4, 2) := by decide +kernel
theorem dL_law_875 : decode cL_law 875 = .ok (.iconst 1, 1) := by decide +kernel
theorem dL_law_876 : decode cL_law 876 = .ok (.iadd, 1) := by decide +kernel
theorem dL_law_877 : decode cL_law 877 = .ok (.iaload, 1) := by decide +kernel
theorem dL_law_878 : decode cL_law 878 = .ok (.aload_n 3, 1) := by decide +kernel
theorem dL_law_879 : decode cL_law 879 = .ok (.invokestatic 125, 3) := by decide +kernel
theorem dL_law_882 : decode cL_law 882 = .ok (.istore 5, 2) := by decide +kernel
theorem dL_law_884 : decode cL_law 884 = .ok (.aload_n 2, 1) := by decide +kernel
theorem dL_law_885 : decode cL_law 885 = .ok (.aload_n 0, 1) := by decide +kernel
theorem dL_law_886 : decode cL_law 886 = .ok (.iload 4, 2) := by decide +kernel
theorem dL_law_888 : decode cL_law 888 = .ok (.iconst 1, 1) := by decide +kernel
theorem dL_law_889 : decode cL_law 889 = .ok (.iadd, 1) := by decide +kernel
theorem dL_law_890 : decode cL_law 890 = .ok (.iaload, 1) := by decide +kernel
theorem dL_law_891 : decode cL_law 891 = .ok (.invokevirtual 127, 3) := by decide +kernel
theorem dL_law_894 : decode cL_law 894 = .ok (.istore 6, 2) := by decide +kernel
theorem dL_law_896 : decode cL_law 896 = .ok (.aload_n 2, 1) := by decide +kernel
theorem dL_law_897 : decode cL_law 897 = .ok (.invokevirtual 86, 3) := by decide +kernel
theorem dL_law_900 : decode cL_law 900 = .ok (.iload 5, 2) := by decide +kernel
theorem dL_law_902 : decode cL_law 902 = .ok (.if_icmp .eq 5, 3) := by decide +kernel
theorem dL_law_905 : decode cL_law 905 = .ok (.iconst 0, 1) := by decide +kernel
theorem dL_law_906 : decode cL_law 906 = .ok (.ireturn, 1) := by decide +kernel
theorem dL_law_907 : decode cL_law 907 = .ok (.iload 5, 2) := by decide +kernel
theorem dL_law_909 : decode cL_law 909 = .ok (.ifCond .ne 15, 3) := by decide +kernel
theorem dL_law_912 : decode cL_law 912 = .ok (.aload_n 3, 1) := by decide +kernel
theorem dL_law_913 : decode cL_law 913 = .ok (.iconst 0, 1) := by decide +kernel
theorem dL_law_914 : decode cL_law 914 = .ok (.laload, 1) := by decide +kernel
theorem dL_law_915 : decode cL_law 915 = .ok (.iload 6, 2) := by decide +kernel
theorem dL_law_917 : decode cL_law 917 = .ok (.i2l, 1) := by decide +kernel
theorem dL_law_918 : decode cL_law 918 = .ok (.lcmp, 1) := by decide +kernel
theorem dL_law_919 : decode cL_law 919 = .ok (.ifCond .eq 5, 3) := by decide +kernel
theorem dL_law_922 : decode cL_law 922 = .ok (.iconst 0, 1) := by decide +kernel
theorem dL_law_923 : decode cL_law 923 = .ok (.ireturn, 1) := by decide +kernel
theorem dL_law_924 : decode cL_law 924 = .ok (.goto 470, 3) := by decide +kernel
theorem dL_law_927 : decode cL_law 927 = .ok (.aload_n 1, 1) := by decide +kernel
theorem dL_law_928 : decode cL_law 928 = .ok (.aload_n 0, 1) := by decide +kernel
theorem dL_law_929 : decode cL_law 929 = .ok (.iload 4, 2) := by decide +kernel
theorem dL_law_931 : decode cL_law 931 = .ok (.iconst 1, 1) := by decide +kernel
theorem dL_law_932 : decode cL_law 932 = .ok (.iadd, 1) := by decide +kernel
theorem dL_law_933 : decode cL_law 933 = .ok (.iaload, 1) := by decide +kernel
theorem dL_law_934 : decode cL_law 934 = .ok (.aload_n 0, 1) := by decide +kernel
theorem dL_law_935 : decode cL_law 935 = .ok (.iload 4, 2) := by decide +kernel
theorem dL_law_937 : decode cL_law 937 = .ok (.iconst 2, 1) := by decide +kernel
theorem dL_law_938 : decode cL_law 938 = .ok (.iadd, 1) := by decide +kernel
theorem dL_law_939 : decode cL_law 939 = .ok (.iaload, 1) := by decide +kernel
theorem dL_law_940 : decode cL_law 940 = .ok (.aload_n 3, 1) := by decide +kernel
theorem dL_law_941 : decode cL_law 941 = .ok (.invokestatic 128, 3) := by decide +kernel
theorem dL_law_944 : decode cL_law 944 = .ok (.istore 5, 2) := by decide +kernel
theorem dL_law_946 : decode cL_law 946 = .ok (.aload_n 2, 1) := by decide +kernel
theorem dL_law_947 : decode cL_law 947 = .ok (.aload_n 0, 1) := by decide +kernel
theorem dL_law_948 : decode cL_law 948 = .ok (.iload 4, 2) := by decide +kernel
theorem dL_law_950 : decode cL_law 950 = .ok (.iconst 1, 1) := by decide +kernel
theorem dL_law_951 : decode cL_law 951 = .ok (.iadd, 1) := by decide +kernel
theorem dL_law_952 : decode cL_law 952 = .ok (.iaload, 1) := by decide +kernel
theorem dL_law_953 : decode cL_law 953 = .ok (.aload_n 0, 1) := by decide +kernel
theorem dL_law_954 : decode cL_law 954 = .ok (.iload 4, 2) := by decide +kernel
theorem dL_law_956 : decode cL_law 956 = .ok (.iconst 2, 1) := by decide +kernel
theorem dL_law_957 : decode cL_law 957 = .ok (.iadd, 1) := by decide +kernel
theorem dL_law_958 : decode cL_law 958 = .ok (.iaload, 1) := by decide +kernel
theorem dL_law_959 : decode cL_law 959 = .ok (.invokevirtual 130, 3) := by decide +kernel
theorem dL_law_962 : decode cL_law 962 = .ok (.istore 6, 2) := by decide +kernel
theorem dL_law_964 : decode cL_law 964 = .ok (.aload_n 2, 1) := by decide +kernel
theorem dL_law_965 : decode cL_law 965 = .ok (.invokevirtual 86, 3) := by decide +kernel
theorem dL_law_968 : decode cL_law 968 = .ok (.iload 5, 2) := by decide +kernel
theorem dL_law_970 : decode cL_law 970 = .ok (.if_icmp .eq 5, 3) := by decide +kernel
theorem dL_law_973 : decode cL_law 973 = .ok (.iconst 0, 1) := by decide +kernel
theorem dL_law_974 : decode cL_law 974 = .ok (.ireturn, 1) := by decide +kernel
theorem dL_law_975 : decode cL_law 975 = .ok (.iload 5, 2) := by decide +kernel
theorem dL_law_977 : decode cL_law 977 = .ok (.ifCond .ne 15, 3) := by decide +kernel
theorem dL_law_980 : decode cL_law 980 = .ok (.aload_n 3, 1) := by decide +kernel
theorem dL_law_981 : decode cL_law 981 = .ok (.iconst 0, 1) := by decide +kernel
theorem dL_law_982 : decode cL_law 982 = .ok (.laload, 1) := by decide +kernel
theorem dL_law_983 : decode cL_law 983 = .ok (.iload 6, 2) := by decide +kernel
theorem dL_law_985 : decode cL_law 985 = .ok (.i2l, 1) := by decide +kernel
theorem dL_law_986 : decode cL_law 986 = .ok (.lcmp, 1) := by decide +kernel
theorem dL_law_987 : decode cL_law 987 = .ok (.ifCond .eq 5, 3) := by decide +kernel
theorem dL_law_990 : decode cL_law 990 = .ok (.iconst 0, 1) := by decide +kernel
theorem dL_law_991 : decode cL_law 991 = .ok (.ireturn, 1) := by decide +kernel
theorem dL_law_992 : decode cL_law 992 = .ok (.goto 402, 3) := by decide +kernel
theorem dL_law_995 : decode cL_law 995 = .ok (.aload_n 1, 1) := by decide +kernel
theorem dL_law_996 : decode cL_law 996 = .ok (.aload_n 0, 1) := by decide +kernel
theorem dL_law_997 : decode cL_law 997 = .ok (.iload 4, 2) := by decide +kernel
theorem dL_law_999 : decode cL_law 999 = .ok (.iconst 1, 1) := by decide +kernel
theorem dL_law_1000 : decode cL_law 1000 = .ok (.iadd, 1) := by decide +kernel
theorem dL_law_1001 : decode cL_law 1001 = .ok (.iaload, 1) := by decide +kernel
theorem dL_law_1002 : decode cL_law 1002 = .ok (.aload_n 0, 1) := by decide +kernel
theorem dL_law_1003 : decode cL_law 1003 = .ok (.iload 4, 2) := by decide +kernel
theorem dL_law_1005 : decode cL_law 1005 = .ok (.iconst 2, 1) := by decide +kernel
theorem dL_law_1006 : decode cL_law 1006 = .ok (.iadd, 1) := by decide +kernel
theorem dL_law_1007 : decode cL_law 1007 = .ok (.iaload, 1) := by decide +kernel
theorem dL_law_1008 : decode cL_law 1008 = .ok (.aload_n 3, 1) := by decide +kernel
theorem dL_law_1009 : decode cL_law 1009 = .ok (.invokestatic 131, 3) := by decide +kernel
theorem dL_law_1012 : decode cL_law 1012 = .ok (.istore 5, 2) := by decide +kernel
theorem dL_law_1014 : decode cL_law 1014 = .ok (.aload_n 2, 1) := by decide +kernel
theorem dL_law_1015 : decode cL_law 1015 = .ok (.aload_n 0, 1) := by decide +kernel
theorem dL_law_1016 : decode cL_law 1016 = .ok (.iload 4, 2) := by decide +kernel
theorem dL_law_1018 : decode cL_law 1018 = .ok (.iconst 1, 1) := by decide +kernel
theorem dL_law_1019 : decode cL_law 1019 = .ok (.iadd, 1) := by decide +kernel
theorem dL_law_1020 : decode cL_law 1020 = .ok (.iaload, 1) := by decide +kernel
theorem dL_law_1021 : decode cL_law 1021 = .ok (.aload_n 0, 1) := by decide +kernel
theorem dL_law_1022 : decode cL_law 1022 = .ok (.iload 4, 2) := by decide +kernel
theorem dL_law_1024 : decode cL_law 1024 = .ok (.iconst 2, 1) := by decide +kernel
theorem dL_law_1025 : decode cL_law 1025 = .ok (.iadd, 1) := by decide +kernel
theorem dL_law_1026 : decode cL_law 1026 = .ok (.iaload, 1) := by decide +kernel
theorem dL_law_1027 : decode cL_law 1027 = .ok (.invokevirtual 133, 3) := by decide +kernel
theorem dL_law_1030 : decode cL_law 1030 = .ok (.istore 6, 2) := by decide +kernel
theorem dL_law_1032 : decode cL_law 1032 = .ok (.aload_n 2, 1) := by decide +kernel
theorem dL_law_1033 : decode cL_law 1033 = .ok (.invokevirtual 86, 3) := by decide +kernel
theorem dL_law_1036 : decode cL_law 1036 = .ok (.iload 5, 2) := by decide +kernel
theorem dL_law_1038 : decode cL_law 1038 = .ok (.if_icmp .eq 5, 3) := by decide +kernel
theorem dL_law_1041 : decode cL_law 1041 = .ok (.iconst 0, 1) := by decide +kernel
theorem dL_law_1042 : decode cL_law 1042 = .ok (.ireturn, 1) := by decide +kernel
theorem dL_law_1043 : decode cL_law 1043 = .ok (.iload 5, 2) := by decide +kernel
theorem dL_law_1045 : decode cL_law 1045 = .ok (.ifCond .ne 15, 3) := by decide +kernel
theorem dL_law_1048 : decode cL_law 1048 = .ok (.aload_n 3, 1) := by decide +kernel
theorem dL_law_1049 : decode cL_law 1049 = .ok (.iconst 0, 1) := by decide +kernel
theorem dL_law_1050 : decode cL_law 1050 = .ok (.laload, 1) := by decide +kernel
theorem dL_law_1051 : decode cL_law 1051 = .ok (.iload 6, 2) := by decide +kernel
theorem dL_law_1053 : decode cL_law 1053 = .ok (.i2l, 1) := by decide +kernel
theorem dL_law_1054 : decode cL_law 1054 = .ok (.lcmp, 1) := by decide +kernel
theorem dL_law_1055 : decode cL_law 1055 = .ok (.ifCond .eq 5, 3) := by decide +kernel
theorem dL_law_1058 : decode cL_law 1058 = .ok (.iconst 0, 1) := by decide +kernel
theorem dL_law_1059 : decode cL_law 1059 = .ok (.ireturn, 1) := by decide +kernel
theorem dL_law_1060 : decode cL_law 1060 = .ok (.goto 334, 3) := by decide +kernel
theorem dL_law_1063 : decode cL_law 1063 = .ok (.aload_n 1, 1) := by decide +kernel
theorem dL_law_1064 : decode cL_law 1064 = .ok (.aload_n 0, 1) := by decide +kernel
theorem dL_law_1065 : decode cL_law 1065 = .ok (.iload 4, 2) := by decide +kernel
theorem dL_law_1067 : decode cL_law 1067 = .ok (.iconst 1, 1) := by decide +kernel
theorem dL_law_1068 : decode cL_law 1068 = .ok (.iadd, 1) := by decide +kernel
theorem dL_law_1069 : decode cL_law 1069 = .ok (.iaload, 1) := by decide +kernel
theorem dL_law_1070 : decode cL_law 1070 = .ok (.aload_n 0, 1) := by decide +kernel
theorem dL_law_1071 : decode cL_law 1071 = .ok (.iload 4, 2) := by decide +kernel
theorem dL_law_1073 : decode cL_law 1073 = .ok (.iconst 2, 1) := by decide +kernel
theorem dL_law_1074 : decode cL_law 1074 = .ok (.iadd, 1) := by decide +kernel
theorem dL_law_1075 : decode cL_law 1075 = .ok (.iaload, 1) := by decide +kernel
theorem dL_law_1076 : decode cL_law 1076 = .ok (.aload_n 3, 1) := by decide +kernel
theorem dL_law_1077 : decode cL_law 1077 = .ok (.invokestatic 134, 3) := by decide +kernel
theorem dL_law_1080 : decode cL_law 1080 = .ok (.istore 5, 2) := by decide +kernel
theorem dL_law_1082 : decode cL_law 1082 = .ok (.aload_n 2, 1) := by decide +kernel
theorem dL_law_1083 : decode cL_law 1083 = .ok (.aload_n 0, 1) := by decide +kernel
theorem dL_law_1084 : decode cL_law 1084 = .ok (.iload 4, 2) := by decide +kernel
theorem dL_law_1086 : decode cL_law 1086 = .ok (.iconst 1, 1) := by decide +kernel
theorem dL_law_1087 : decode cL_law 1087 = .ok (.iadd, 1) := by decide +kernel
theorem dL_law_1088 : decode cL_law 1088 = .ok (.iaload, 1) := by decide +kernel
theorem dL_law_1089 : decode cL_law 1089 = .ok (.aload_n 0, 1) := by decide +kernel
theorem dL_law_1090 : decode cL_law 1090 = .ok (.iload 4, 2) := by decide +kernel
theorem dL_law_1092 : decode cL_law 1092 = .ok (.iconst 2, 1) := by decide +kernel
theorem dL_law_1093 : decode cL_law 1093 = .ok (.iadd, 1) := by decide +kernel
theorem dL_law_1094 : decode cL_law 1094 = .ok (.iaload, 1) := by decide +kernel
theorem dL_law_1095 : decode cL_law 1095 = .ok (.invokevirtual 136, 3) := by decide +kernel
theorem dL_law_1098 : decode cL_law 1098 = .ok (.istore 6, 2) := by decide +kernel
theorem dL_law_1100 : decode cL_law 1100 = .ok (.aload_n 2, 1) := by decide +kernel
theorem dL_law_1101 : decode cL_law 1101 = .ok (.invokevirtual 86, 3) := by decide +kernel
theorem dL_law_1104 : decode cL_law 1104 = .ok (.iload 5, 2) := by decide +kernel
theorem dL_law_1106 : decode cL_law 1106 = .ok (.if_icmp .eq 5, 3) := by decide +kernel
theorem dL_law_1109 : decode cL_law 1109 = .ok (.iconst 0, 1) := by decide +kernel
theorem dL_law_1110 : decode cL_law 1110 = .ok (.ireturn, 1) := by decide +kernel
theorem dL_law_1111 : decode cL_law 1111 = .ok (.iload 5, 2) := by decide +kernel
theorem dL_law_1113 : decode cL_law 1113 = .ok (.ifCond .ne 15, 3) := by decide +kernel
theorem dL_law_1116 : decode cL_law 1116 = .ok (.aload_n 3, 1) := by decide +kernel
theorem dL_law_1117 : decode cL_law 1117 = .ok (.iconst 0, 1) := by decide +kernel
theorem dL_law_1118 : decode cL_law 1118 = .ok (.laload, 1) := by decide +kernel
theorem dL_law_1119 : decode cL_law 1119 = .ok (.iload 6, 2) := by decide +kernel
theorem dL_law_1121 : decode cL_law 1121 = .ok (.i2l, 1) := by decide +kernel
theorem dL_law_1122 : decode cL_law 1122 = .ok (.lcmp, 1) := by decide +kernel
theorem dL_law_1123 : decode cL_law 1123 = .ok (.ifCond .eq 5, 3) := by decide +kernel
theorem dL_law_1126 : decode cL_law 1126 = .ok (.iconst 0, 1) := by decide +kernel
theorem dL_law_1127 : decode cL_law 1127 = .ok (.ireturn, 1) := by decide +kernel
theorem dL_law_1128 : decode cL_law 1128 = .ok (.goto 266, 3) := by decide +kernel
theorem dL_law_1131 : decode cL_law 1131 = .ok (.aload_n 1, 1) := by decide +kernel
theorem dL_law_1132 : decode cL_law 1132 = .ok (.invokevirtual 137, 3) := by decide +kernel
theorem dL_law_1135 : decode cL_law 1135 = .ok (.aload_n 2, 1) := by decide +kernel
theorem dL_law_1136 : decode cL_law 1136 = .ok (.invokevirtual 140, 3) := by decide +kernel
theorem dL_law_1139 : decode cL_law 1139 = .ok (.if_icmp .eq 255, 3) := by decide +kernel
theorem dL_law_1142 : decode cL_law 1142 = .ok (.iconst 0, 1) := by decide +kernel
theorem dL_law_1143 : decode cL_law 1143 = .ok (.ireturn, 1) := by decide +kernel
theorem dL_law_1144 : decode cL_law 1144 = .ok (.aload_n 1, 1) := by decide +kernel
theorem dL_law_1145 : decode cL_law 1145 = .ok (.invokevirtual 141, 3) := by decide +kernel
theorem dL_law_1148 : decode cL_law 1148 = .ok (.aload_n 2, 1) := by decide +kernel
theorem dL_law_1149 : decode cL_law 1149 = .ok (.invokevirtual 144, 3) := by decide +kernel
theorem dL_law_1152 : decode cL_law 1152 = .ok (.if_icmp .eq 242, 3) := by decide +kernel
theorem dL_law_1155 : decode cL_law 1155 = .ok (.iconst 0, 1) := by decide +kernel
theorem dL_law_1156 : decode cL_law 1156 = .ok (.ireturn, 1) := by decide +kernel
theorem dL_law_1157 : decode cL_law 1157 = .ok (.aload_n 1, 1) := by decide +kernel
theorem dL_law_1158 : decode cL_law 1158 = .ok (.aload_n 0, 1) := by decide +kernel
theorem dL_law_1159 : decode cL_law 1159 = .ok (.iload 4, 2) := by decide +kernel
theorem dL_law_1161 : decode cL_law 1161 = .ok (.iconst 1, 1) := by decide +kernel
theorem dL_law_1162 : decode cL_law 1162 = .ok (.iadd, 1) := by decide +kernel
theorem dL_law_1163 : decode cL_law 1163 = .ok (.iaload, 1) := by decide +kernel
theorem dL_law_1164 : decode cL_law 1164 = .ok (.aload_n 3, 1) := by decide +kernel
theorem dL_law_1165 : decode cL_law 1165 = .ok (.invokestatic 145, 3) := by decide +kernel
theorem dL_law_1168 : decode cL_law 1168 = .ok (.istore 5, 2) := by decide +kernel
theorem dL_law_1170 : decode cL_law 1170 = .ok (.aload_n 2, 1) := by decide +kernel
theorem dL_law_1171 : decode cL_law 1171 = .ok (.aload_n 0, 1) := by decide +kernel
theorem dL_law_1172 : decode cL_law 1172 = .ok (.iload 4, 2) := by decide +kernel
theorem dL_law_1174 : decode cL_law 1174 = .ok (.iconst 1, 1) := by decide +kernel
theorem dL_law_1175 : decode cL_law 1175 = .ok (.iadd, 1) := by decide +kernel
theorem dL_law_1176 : decode cL_law 1176 = .ok (.iaload, 1) := by decide +kernel
theorem dL_law_1177 : decode cL_law 1177 = .ok (.invokevirtual 147, 3) := by decide +kernel
theorem dL_law_1180 : decode cL_law 1180 = .ok (.istore 6, 2) := by decide +kernel
theorem dL_law_1182 : decode cL_law 1182 = .ok (.aload_n 2, 1) := by decide +kernel
theorem dL_law_1183 : decode cL_law 1183 = .ok (.invokevirtual 86, 3) := by decide +kernel
theorem dL_law_1186 : decode cL_law 1186 = .ok (.iload 5, 2) := by decide +kernel
theorem dL_law_1188 : decode cL_law 1188 = .ok (.if_icmp .eq 5, 3) := by decide +kernel
theorem dL_law_1191 : decode cL_law 1191 = .ok (.iconst 0, 1) := by decide +kernel
theorem dL_law_1192 : decode cL_law 1192 = .ok (.ireturn, 1) := by decide +kernel
theorem dL_law_1193 : decode cL_law 1193 = .ok (.iload 5, 2) := by decide +kernel
theorem dL_law_1195 : decode cL_law 1195 = .ok (.ifCond .ne 15, 3) := by decide +kernel
theorem dL_law_1198 : decode cL_law 1198 = .ok (.aload_n 3, 1) := by decide +kernel
theorem dL_law_1199 : decode cL_law 1199 = .ok (.iconst 0, 1) := by decide +kernel
theorem dL_law_1200 : decode cL_law 1200 = .ok (.laload, 1) := by decide +kernel
theorem dL_law_1201 : decode cL_law 1201 = .ok (.iload 6, 2) := by decide +kernel
theorem dL_law_1203 : decode cL_law 1203 = .ok (.i2l, 1) := by decide +kernel
theorem dL_law_1204 : decode cL_law 1204 = .ok (.lcmp, 1) := by decide +kernel
theorem dL_law_1205 : decode cL_law 1205 = .ok (.ifCond .eq 5, 3) := by decide +kernel
theorem dL_law_1208 : decode cL_law 1208 = .ok (.iconst 0, 1) := by decide +kernel
theorem dL_law_1209 : decode cL_law 1209 = .ok (.ireturn, 1) := by decide +kernel
theorem dL_law_1210 : decode cL_law 1210 = .ok (.goto 184, 3) := by decide +kernel
theorem dL_law_1213 : decode cL_law 1213 = .ok (.aload_n 1, 1) := by decide +kernel
theorem dL_law_1214 : decode cL_law 1214 = .ok (.aload_n 0, 1) := by decide +kernel
theorem dL_law_1215 : decode cL_law 1215 = .ok (.iload 4, 2) := by decide +kernel
theorem dL_law_1217 : decode cL_law 1217 = .ok (.iconst 1, 1) := by decide +kernel
theorem dL_law_1218 : decode cL_law 1218 = .ok (.iadd, 1) := by decide +kernel
theorem dL_law_1219 : decode cL_law 1219 = .ok (.iaload, 1) := by decide +kernel
theorem dL_law_1220 : decode cL_law 1220 = .ok (.aload_n 3, 1) := by decide +kernel
theorem dL_law_1221 : decode cL_law 1221 = .ok (.invokestatic 148, 3) := by decide +kernel
theorem dL_law_1224 : decode cL_law 1224 = .ok (.istore 5, 2) := by decide +kernel
theorem dL_law_1226 : decode cL_law 1226 = .ok (.aload_n 2, 1) := by decide +kernel
theorem dL_law_1227 : decode cL_law 1227 = .ok (.aload_n 0, 1) := by decide +kernel
theorem dL_law_1228 : decode cL_law 1228 = .ok (.iload 4, 2) := by decide +kernel
theorem dL_law_1230 : decode cL_law 1230 = .ok (.iconst 1, 1) := by decide +kernel
theorem dL_law_1231 : decode cL_law 1231 = .ok (.iadd, 1) := by decide +kernel
theorem dL_law_1232 : decode cL_law 1232 = .ok (.iaload, 1) := by decide +kernel
theorem dL_law_1233 : decode cL_law 1233 = .ok (.invokevirtual 150, 3) := by decide +kernel
theorem dL_law_1236 : decode cL_law 1236 = .ok (.istore 6, 2) := by decide +kernel
theorem dL_law_1238 : decode cL_law 1238 = .ok (.aload_n 2, 1) := by decide +kernel
theorem dL_law_1239 : decode cL_law 1239 = .ok (.invokevirtual 86, 3) := by decide +kernel
theorem dL_law_1242 : decode cL_law 1242 = .ok (.iload 5, 2) := by decide +kernel
theorem dL_law_1244 : decode cL_law 1244 = .ok (.if_icmp .eq 5, 3) := by decide +kernel
theorem dL_law_1247 : decode cL_law 1247 = .ok (.iconst 0, 1) := by decide +kernel
theorem dL_law_1248 : decode cL_law 1248 = .ok (.ireturn, 1) := by decide +kernel
theorem dL_law_1249 : decode cL_law 1249 = .ok (.iload 5, 2) := by decide +kernel
theorem dL_law_1251 : decode cL_law 1251 = .ok (.ifCond .ne 15, 3) := by decide +kernel
theorem dL_law_1254 : decode cL_law 1254 = .ok (.aload_n 3, 1) := by decide +kernel
theorem dL_law_1255 : decode cL_law 1255 = .ok (.iconst 0, 1) := by decide +kernel
theorem dL_law_1256 : decode cL_law 1256 = .ok (.laload, 1) := by decide +kernel
theorem dL_law_1257 : decode cL_law 1257 = .ok (.iload 6, 2) := by decide +kernel
theorem dL_law_1259 : decode cL_law 1259 = .ok (.i2l, 1) := by decide +kernel
theorem dL_law_1260 : decode cL_law 1260 = .ok (.lcmp, 1) := by decide +kernel
theorem dL_law_1261 : decode cL_law 1261 = .ok (.ifCond .eq 5, 3) := by decide +kernel
theorem dL_law_1264 : decode cL_law 1264 = .ok (.iconst 0, 1) := by decide +kernel
theorem dL_law_1265 : decode cL_law 1265 = .ok (.ireturn, 1) := by decide +kernel
theorem dL_law_1266 : decode cL_law 1266 = .ok (.goto 128, 3) := by decide +kernel
theorem dL_law_1269 : decode cL_law 1269 = .ok (.aload_n 1, 1) := by decide +kernel
theorem dL_law_1270 : decode cL_law 1270 = .ok (.invokevirtual 151, 3) := by decide +kernel
theorem dL_law_1273 : decode cL_law 1273 = .ok (.dstore 5, 2) := by decide +kernel
theorem dL_law_1275 : decode cL_law 1275 = .ok (.aload_n 2, 1) := by decide +kernel
theorem dL_law_1276 : decode cL_law 1276 = .ok (.invokevirtual 155, 3) := by decide +kernel
theorem dL_law_1279 : decode cL_law 1279 = .ok (.dstore 7, 2) := by decide +kernel
theorem dL_law_1281 : decode cL_law 1281 = .ok (.dload 5, 2) := by decide +kernel
theorem dL_law_1283 : decode cL_law 1283 = .ok (.dload 7, 2) := by decide +kernel
theorem dL_law_1285 : decode cL_law 1285 = .ok (.dcmp .l, 1) := by decide +kernel
theorem dL_law_1286 : decode cL_law 1286 = .ok (.ifCond .eq 21, 3) := by decide +kernel
theorem dL_law_1289 : decode cL_law 1289 = .ok (.dload 5, 2) := by decide +kernel
theorem dL_law_1291 : decode cL_law 1291 = .ok (.dload 5, 2) := by decide +kernel
theorem dL_law_1293 : decode cL_law 1293 = .ok (.dcmp .l, 1) := by decide +kernel
theorem dL_law_1294 : decode cL_law 1294 = .ok (.ifCond .eq 11, 3) := by decide +kernel
theorem dL_law_1297 : decode cL_law 1297 = .ok (.dload 7, 2) := by decide +kernel
theorem dL_law_1299 : decode cL_law 1299 = .ok (.dload 7, 2) := by decide +kernel
theorem dL_law_1301 : decode cL_law 1301 = .ok (.dcmp .l, 1) := by decide +kernel
theorem dL_law_1302 : decode cL_law 1302 = .ok (.ifCond .ne 5, 3) := by decide +kernel
theorem dL_law_1305 : decode cL_law 1305 = .ok (.iconst 0, 1) := by decide +kernel
theorem dL_law_1306 : decode cL_law 1306 = .ok (.ireturn, 1) := by decide +kernel
theorem dL_law_1307 : decode cL_law 1307 = .ok (.goto 87, 3) := by decide +kernel
theorem dL_law_1310 : decode cL_law 1310 = .ok (.aload_n 1, 1) := by decide +kernel
theorem dL_law_1311 : decode cL_law 1311 = .ok (.invokevirtual 156, 3) := by decide +kernel
theorem dL_law_1314 : decode cL_law 1314 = .ok (.aload_n 2, 1) := by decide +kernel
theorem dL_law_1315 : decode cL_law 1315 = .ok (.invokevirtual 159, 3) := by decide +kernel
theorem dL_law_1318 : decode cL_law 1318 = .ok (.if_icmp .eq 76, 3) := by decide +kernel
theorem dL_law_1321 : decode cL_law 1321 = .ok (.iconst 0, 1) := by decide +kernel
theorem dL_law_1322 : decode cL_law 1322 = .ok (.ireturn, 1) := by decide +kernel
theorem dL_law_1323 : decode cL_law 1323 = .ok (.aload_n 1, 1) := by decide +kernel
theorem dL_law_1324 : decode cL_law 1324 = .ok (.invokevirtual 160, 3) := by decide +kernel
theorem dL_law_1327 : decode cL_law 1327 = .ok (.aload_n 2, 1) := by decide +kernel
theorem dL_law_1328 : decode cL_law 1328 = .ok (.invokevirtual 163, 3) := by decide +kernel
theorem dL_law_1331 : decode cL_law 1331 = .ok (.if_icmp .eq 63, 3) := by decide +kernel
theorem dL_law_1334 : decode cL_law 1334 = .ok (.iconst 0, 1) := by decide +kernel
theorem dL_law_1335 : decode cL_law 1335 = .ok (.ireturn, 1) := by decide +kernel
theorem dL_law_1336 : decode cL_law 1336 = .ok (.aload_n 1, 1) := by decide +kernel
theorem dL_law_1337 : decode cL_law 1337 = .ok (.aload_n 3, 1) := by decide +kernel
theorem dL_law_1338 : decode cL_law 1338 = .ok (.invokestatic 164, 3) := by decide +kernel
theorem dL_law_1341 : decode cL_law 1341 = .ok (.istore 5, 2) := by decide +kernel
theorem dL_law_1343 : decode cL_law 1343 = .ok (.aload_n 2, 1) := by decide +kernel
theorem dL_law_1344 : decode cL_law 1344 = .ok (.invokevirtual 166, 3) := by decide +kernel
theorem dL_law_1347 : decode cL_law 1347 = .ok (.istore 6, 2) := by decide +kernel
theorem dL_law_1349 : decode cL_law 1349 = .ok (.aload_n 2, 1) := by decide +kernel
theorem dL_law_1350 : decode cL_law 1350 = .ok (.invokevirtual 86, 3) := by decide +kernel
theorem dL_law_1353 : decode cL_law 1353 = .ok (.iload 5, 2) := by decide +kernel
theorem dL_law_1355 : decode cL_law 1355 = .ok (.if_icmp .eq 5, 3) := by decide +kernel
theorem dL_law_1358 : decode cL_law 1358 = .ok (.iconst 0, 1) := by decide +kernel
theorem dL_law_1359 : decode cL_law 1359 = .ok (.ireturn, 1) := by decide +kernel
theorem dL_law_1360 : decode cL_law 1360 = .ok (.iload 5, 2) := by decide +kernel
theorem dL_law_1362 : decode cL_law 1362 = .ok (.ifCond .ne 15, 3) := by decide +kernel
theorem dL_law_1365 : decode cL_law 1365 = .ok (.aload_n 3, 1) := by decide +kernel
theorem dL_law_1366 : decode cL_law 1366 = .ok (.iconst 0, 1) := by decide +kernel
theorem dL_law_1367 : decode cL_law 1367 = .ok (.laload, 1) := by decide +kernel
theorem dL_law_1368 : decode cL_law 1368 = .ok (.iload 6, 2) := by decide +kernel
theorem dL_law_1370 : decode cL_law 1370 = .ok (.i2l, 1) := by decide +kernel
theorem dL_law_1371 : decode cL_law 1371 = .ok (.lcmp, 1) := by decide +kernel
theorem dL_law_1372 : decode cL_law 1372 = .ok (.ifCond .eq 5, 3) := by decide +kernel
theorem dL_law_1375 : decode cL_law 1375 = .ok (.iconst 0, 1) := by decide +kernel
theorem dL_law_1376 : decode cL_law 1376 = .ok (.ireturn, 1) := by decide +kernel
theorem dL_law_1377 : decode cL_law 1377 = .ok (.goto 17, 3) := by decide +kernel
theorem dL_law_1380 : decode cL_law 1380 = .ok (.aload_n 1, 1) := by decide +kernel
theorem dL_law_1381 : decode cL_law 1381 = .ok (.invokevirtual 167, 3) := by decide +kernel
theorem dL_law_1384 : decode cL_law 1384 = .ok (.aload_n 2, 1) := by decide +kernel
theorem dL_law_1385 : decode cL_law 1385 = .ok (.invokevirtual 171, 3) := by decide +kernel
theorem dL_law_1388 : decode cL_law 1388 = .ok (.lcmp, 1) := by decide +kernel
theorem dL_law_1389 : decode cL_law 1389 = .ok (.ifCond .eq 5, 3) := by decide +kernel
theorem dL_law_1392 : decode cL_law 1392 = .ok (.iconst 0, 1) := by decide +kernel
theorem dL_law_1393 : decode cL_law 1393 = .ok (.ireturn, 1) := by decide +kernel
theorem dL_law_1394 : decode cL_law 1394 = .ok (.iinc 4 3, 3) := by decide +kernel
theorem dL_law_1397 : decode cL_law 1397 = .ok (.goto (-1374), 3) := by decide +kernel
theorem dL_law_1400 : decode cL_law 1400 = .ok (.iconst 1, 1) := by decide +kernel
theorem dL_law_1401 : decode cL_law 1401 = .ok (.ireturn, 1) := by decide +kernel
abbrev vwCl : List vw_C := [(RX0, TX0, 5), (RX1, TX1, 10), (RX2, TX2, 6), (RX3, TX3, 11), (RX4, TX4, 3), (RX5, TX5, 6)]
/-! ===== END printed: names ===== -/
