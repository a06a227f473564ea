-- ===== PART A: goes FIRST, ahead of the names: the tables' words, and 'selects' of the private methods out of them =====
/-- a private method of a class that the tables say can be made, by its rows of tables_1 -/
def lw_okq (q : MethodName × Nat) : Prop := (q.1.cls ≠ "java/lang/invoke/MethodHandle" ∧ q.1.cls ≠ "java/lang/invoke/VarHandle") ∧ Cond.instantiable q.1.cls q.2 ∈ tables_1 ∧ Cond.privateMethod q.1 ∈ tables_1 ∧ Cond.instanceMethod q.1 ∈ tables_1
theorem lw_p0 : lw_okq (⟨"SaggarKiln", "freshDraft", "()LSaggarKiln$Works;"⟩, 8) := ⟨⟨by decide +kernel, by decide +kernel⟩, List.mem_of_getElem? (i := 35) (by decide +kernel), List.mem_of_getElem? (i := 268) (by decide +kernel), List.mem_of_getElem? (i := 269) (by decide +kernel)⟩
theorem lw_p1 : lw_okq (⟨"SaggarKiln", "settle", "(I)I"⟩, 8) := ⟨⟨by decide +kernel, by decide +kernel⟩, List.mem_of_getElem? (i := 35) (by decide +kernel), List.mem_of_getElem? (i := 309) (by decide +kernel), List.mem_of_getElem? (i := 310) (by decide +kernel)⟩
theorem lw_p2 : lw_okq (⟨"java/lang/Throwable", "fillInStackTrace", "(I)Ljava/lang/Throwable;"⟩, 6) := ⟨⟨by decide +kernel, by decide +kernel⟩, List.mem_of_getElem? (i := 355) (by decide +kernel), List.mem_of_getElem? (i := 353) (by decide +kernel), List.mem_of_getElem? (i := 354) (by decide +kernel)⟩
theorem lw_p3 : lw_okq (⟨"SaggarKiln$Works", "weightOf", "(I)I"⟩, 8) := ⟨⟨by decide +kernel, by decide +kernel⟩, List.mem_of_getElem? (i := 70) (by decide +kernel), List.mem_of_getElem? (i := 534) (by decide +kernel), List.mem_of_getElem? (i := 535) (by decide +kernel)⟩
theorem lw_p4 : lw_okq (⟨"SaggarKiln$Works", "overloadedBelow", "(III)I"⟩, 8) := ⟨⟨by decide +kernel, by decide +kernel⟩, List.mem_of_getElem? (i := 70) (by decide +kernel), List.mem_of_getElem? (i := 543) (by decide +kernel), List.mem_of_getElem? (i := 544) (by decide +kernel)⟩
theorem lw_p5 : lw_okq (⟨"SaggarKiln$Works", "roomIn", "(I)I"⟩, 8) := ⟨⟨by decide +kernel, by decide +kernel⟩, List.mem_of_getElem? (i := 70) (by decide +kernel), List.mem_of_getElem? (i := 602) (by decide +kernel), List.mem_of_getElem? (i := 603) (by decide +kernel)⟩
theorem lw_p6 : lw_okq (⟨"SaggarKiln$Works", "isToFire", "(I)Z"⟩, 8) := ⟨⟨by decide +kernel, by decide +kernel⟩, List.mem_of_getElem? (i := 70) (by decide +kernel), List.mem_of_getElem? (i := 617) (by decide +kernel), List.mem_of_getElem? (i := 618) (by decide +kernel)⟩
theorem lw_p7 : lw_okq (⟨"SaggarKiln$Works", "gradeByFiring", "(II)I"⟩, 8) := ⟨⟨by decide +kernel, by decide +kernel⟩, List.mem_of_getElem? (i := 70) (by decide +kernel), List.mem_of_getElem? (i := 626) (by decide +kernel), List.mem_of_getElem? (i := 627) (by decide +kernel)⟩
theorem lw_p8 : lw_okq (⟨"SaggarKiln", "needSaggar", "(I)V"⟩, 8) := ⟨⟨by decide +kernel, by decide +kernel⟩, List.mem_of_getElem? (i := 35) (by decide +kernel), List.mem_of_getElem? (i := 694) (by decide +kernel), List.mem_of_getElem? (i := 695) (by decide +kernel)⟩
theorem lw_p9 : lw_okq (⟨"SaggarKiln", "needWare", "(I)V"⟩, 8) := ⟨⟨by decide +kernel, by decide +kernel⟩, List.mem_of_getElem? (i := 35) (by decide +kernel), List.mem_of_getElem? (i := 761) (by decide +kernel), List.mem_of_getElem? (i := 762) (by decide +kernel)⟩
theorem lw_p10 : lw_okq (⟨"SaggarKiln", "needOrder", "(I)V"⟩, 8) := ⟨⟨by decide +kernel, by decide +kernel⟩, List.mem_of_getElem? (i := 35) (by decide +kernel), List.mem_of_getElem? (i := 933) (by decide +kernel), List.mem_of_getElem? (i := 934) (by decide +kernel)⟩
theorem lw_p11 : lw_okq (⟨"SaggarKiln$Works", "countFor", "(II)I"⟩, 8) := ⟨⟨by decide +kernel, by decide +kernel⟩, List.mem_of_getElem? (i := 70) (by decide +kernel), List.mem_of_getElem? (i := 944) (by decide +kernel), List.mem_of_getElem? (i := 945) (by decide +kernel)⟩
theorem lw_p12 : lw_okq (⟨"SaggarKiln$Works", "lackingKind", "(I)I"⟩, 8) := ⟨⟨by decide +kernel, by decide +kernel⟩, List.mem_of_getElem? (i := 70) (by decide +kernel), List.mem_of_getElem? (i := 958) (by decide +kernel), List.mem_of_getElem? (i := 959) (by decide +kernel)⟩
theorem lw_p13 : lw_okq (⟨"SaggarKiln$Works", "takeSet", "(I)V"⟩, 8) := ⟨⟨by decide +kernel, by decide +kernel⟩, List.mem_of_getElem? (i := 70) (by decide +kernel), List.mem_of_getElem? (i := 962) (by decide +kernel), List.mem_of_getElem? (i := 963) (by decide +kernel)⟩
theorem lw_p14 : lw_okq (⟨"SaggarKiln$StepText", "passStep", "(I)Z"⟩, 6) := ⟨⟨by decide +kernel, by decide +kernel⟩, List.mem_of_getElem? (i := 201) (by decide +kernel), List.mem_of_getElem? (i := 1335) (by decide +kernel), List.mem_of_getElem? (i := 1336) (by decide +kernel)⟩
theorem lw_p15 : lw_okq (⟨"SaggarKiln$StepText", "passSign", "(C)Z"⟩, 6) := ⟨⟨by decide +kernel, by decide +kernel⟩, List.mem_of_getElem? (i := 201) (by decide +kernel), List.mem_of_getElem? (i := 1339) (by decide +kernel), List.mem_of_getElem? (i := 1340) (by decide +kernel)⟩
def lw_privs_1 : List (MethodName × Nat) := [(⟨"SaggarKiln", "freshDraft", "()LSaggarKiln$Works;"⟩, 8), (⟨"SaggarKiln", "settle", "(I)I"⟩, 8), (⟨"java/lang/Throwable", "fillInStackTrace", "(I)Ljava/lang/Throwable;"⟩, 6), (⟨"SaggarKiln$Works", "weightOf", "(I)I"⟩, 8), (⟨"SaggarKiln$Works", "overloadedBelow", "(III)I"⟩, 8), (⟨"SaggarKiln$Works", "roomIn", "(I)I"⟩, 8), (⟨"SaggarKiln$Works", "isToFire", "(I)Z"⟩, 8), (⟨"SaggarKiln$Works", "gradeByFiring", "(II)I"⟩, 8), (⟨"SaggarKiln", "needSaggar", "(I)V"⟩, 8), (⟨"SaggarKiln", "needWare", "(I)V"⟩, 8), (⟨"SaggarKiln", "needOrder", "(I)V"⟩, 8), (⟨"SaggarKiln$Works", "countFor", "(II)I"⟩, 8), (⟨"SaggarKiln$Works", "lackingKind", "(I)I"⟩, 8), (⟨"SaggarKiln$Works", "takeSet", "(I)V"⟩, 8), (⟨"SaggarKiln$StepText", "passStep", "(I)Z"⟩, 6), (⟨"SaggarKiln$StepText", "passSign", "(C)Z"⟩, 6)]
theorem lw_r1 : ∀ q ∈ lw_privs_1, lw_okq q := List.forall_mem_cons.mpr ⟨lw_p0, List.forall_mem_cons.mpr ⟨lw_p1, List.forall_mem_cons.mpr ⟨lw_p2, List.forall_mem_cons.mpr ⟨lw_p3, List.forall_mem_cons.mpr ⟨lw_p4, List.forall_mem_cons.mpr ⟨lw_p5, List.forall_mem_cons.mpr ⟨lw_p6, List.forall_mem_cons.mpr ⟨lw_p7, List.forall_mem_cons.mpr ⟨lw_p8, List.forall_mem_cons.mpr ⟨lw_p9, List.forall_mem_cons.mpr ⟨lw_p10, List.forall_mem_cons.mpr ⟨lw_p11, List.forall_mem_cons.mpr ⟨lw_p12, List.forall_mem_cons.mpr ⟨lw_p13, List.forall_mem_cons.mpr ⟨lw_p14, List.forall_mem_cons.mpr ⟨lw_p15, fun _ h => absurd h List.not_mem_nil⟩⟩⟩⟩⟩⟩⟩⟩⟩⟩⟩⟩⟩⟩⟩⟩
theorem lw_p16 : lw_okq (⟨"SaggarKiln$StepText", "passNumber", "(IIII)Z"⟩, 6) := ⟨⟨by decide +kernel, by decide +kernel⟩, List.mem_of_getElem? (i := 201) (by decide +kernel), List.mem_of_getElem? (i := 1343) (by decide +kernel), List.mem_of_getElem? (i := 1344) (by decide +kernel)⟩
theorem lw_p17 : lw_okq (⟨"SaggarKiln", "doStep", "(LSaggarKiln$Works;I)I"⟩, 8) := ⟨⟨by decide +kernel, by decide +kernel⟩, List.mem_of_getElem? (i := 35) (by decide +kernel), List.mem_of_getElem? (i := 1352) (by decide +kernel), List.mem_of_getElem? (i := 1353) (by decide +kernel)⟩
def lw_privs_2 : List (MethodName × Nat) := [(⟨"SaggarKiln$StepText", "passNumber", "(IIII)Z"⟩, 6), (⟨"SaggarKiln", "doStep", "(LSaggarKiln$Works;I)I"⟩, 8)]
theorem lw_r2 : ∀ q ∈ lw_privs_2, lw_okq q := List.forall_mem_cons.mpr ⟨lw_p16, List.forall_mem_cons.mpr ⟨lw_p17, fun _ h => absurd h List.not_mem_nil⟩⟩
def lw_privs : List (MethodName × Nat) := lw_privs_1 ++ (lw_privs_2)
def lw_tbl : List Cond := k2_sels lw_privs ++ tables_1
theorem lw_privs_ok : ∀ q ∈ lw_privs, lw_okq q := by
  show ∀ q ∈ lw_privs_1 ++ (lw_privs_2), lw_okq q
  exact List.forall_mem_append.mpr ⟨lw_r1, lw_r2⟩
/-- the streams that the claim lets the run draw from -/
abbrev lw_cs : List Choice := [Jvm.Choice.named "NaN.bits"]
theorem lw_bits : nanBits ∈ lw_cs := by first | decide | exact List.mem_cons_self | simp [lw_cs, nanBits]
def RX0 : String := "SaggarKiln$History"
def TX0 : u_T := fun k => match k with
  | 0 => ("SaggarKiln$History", "count", "I", false)
  | 1 => ("SaggarKiln$History", "next", "I", false)
  | _ => ("SaggarKiln$History", "ring", "[LSaggarKiln$Works;", true)
def tyX0 : Nat → FieldType := fun k => match k with
  | 0 => .int
  | 1 => .int
  | _ => .array (.object "SaggarKiln$Works")
abbrev wsX00 : List Cond := u_ws RX0 TX0 3
theorem nmX0 : ∀ a, a < 3 → ∀ b, b < 3 → a ≠ b → (TX0 a).2.1 ≠ (TX0 b).2.1 := by decide +kernel
theorem tyX0_ok : ∀ k, k < 3 → parseFieldDescriptor (TX0 k).2.2.1 = some (tyX0 k) := by decide +kernel
abbrev cX0_init : ByteArray := prog_2_method_1_code
def yX0_init : MethodName := ⟨RX0, "<init>", "()V"⟩
abbrev cX0_keep : ByteArray := prog_2_method_2_code
def yX0_keep : MethodName := ⟨RX0, "keep", "(LSaggarKiln$Works;)LSaggarKiln$Works;"⟩
abbrev cX0_exchangeLatest : ByteArray := prog_2_method_3_code
def yX0_exchangeLatest : MethodName := ⟨RX0, "exchangeLatest", "(LSaggarKiln$Works;)LSaggarKiln$Works;"⟩
def RX1 : String := "SaggarKiln$Orders"
def TX1 : u_T := fun k => match k with
  | 0 => ("SaggarKiln$Orders", "count", "I", false)
  | 1 => ("SaggarKiln$Orders", "glaze", "[I", true)
  | 2 => ("SaggarKiln$Orders", "areSeconds", "[I", true)
  | 3 => ("SaggarKiln$Orders", "sold", "[I", true)
  | _ => ("SaggarKiln$Orders", "asked", "[I", true)
def tyX1 : Nat → FieldType := fun k => match k with
  | 0 => .int
  | 1 => .array .int
  | 2 => .array .int
  | 3 => .array .int
  | _ => .array .int
abbrev wsX10 : List Cond := u_ws RX1 TX1 5
theorem nmX1 : ∀ a, a < 5 → ∀ b, b < 5 → a ≠ b → (TX1 a).2.1 ≠ (TX1 b).2.1 := by decide +kernel
theorem tyX1_ok : ∀ k, k < 5 → parseFieldDescriptor (TX1 k).2.2.1 = some (tyX1 k) := by decide +kernel
abbrev cX1_init : ByteArray := prog_3_method_1_code
def yX1_init : MethodName := ⟨RX1, "<init>", "()V"⟩
abbrev cX1_copyFrom : ByteArray := prog_3_method_2_code
def yX1_copyFrom : MethodName := ⟨RX1, "copyFrom", "(LSaggarKiln$Orders;)V"⟩
abbrev cX1_has : ByteArray := prog_3_method_3_code
def yX1_has : MethodName := ⟨RX1, "has", "(I)Z"⟩
abbrev cX1_add : ByteArray := prog_3_method_4_code
def yX1_add : MethodName := ⟨RX1, "add", "(IZ)I"⟩
abbrev cX1_ask : ByteArray := prog_3_method_5_code
def yX1_ask : MethodName := ⟨RX1, "ask", "(III)V"⟩
abbrev cX1_askedOf : ByteArray := prog_3_method_6_code
def yX1_askedOf : MethodName := ⟨RX1, "askedOf", "(II)I"⟩
abbrev cX1_countSold : ByteArray := prog_3_method_7_code
def yX1_countSold : MethodName := ⟨RX1, "countSold", "()I"⟩
abbrev cX1_countSoldOf : ByteArray := prog_3_method_8_code
def yX1_countSoldOf : MethodName := ⟨RX1, "countSoldOf", "(I)I"⟩
abbrev cX1_numberOf : ByteArray := prog_3_method_9_code
def yX1_numberOf : MethodName := ⟨RX1, "numberOf", "(II)I"⟩
def RX2 : String := "SaggarKiln$Reasons"
def TX2 : u_T := fun k => match k with
  | 0 => ("SaggarKiln$Reasons", "count", "I", false)
  | 1 => ("SaggarKiln$Reasons", "reason", "[I", true)
  | _ => ("SaggarKiln$Reasons", "detail", "[I", true)
def tyX2 : Nat → FieldType := fun k => match k with
  | 0 => .int
  | 1 => .array .int
  | _ => .array .int
abbrev wsX20 : List Cond := u_ws RX2 TX2 3
theorem nmX2 : ∀ a, a < 3 → ∀ b, b < 3 → a ≠ b → (TX2 a).2.1 ≠ (TX2 b).2.1 := by decide +kernel
theorem tyX2_ok : ∀ k, k < 3 → parseFieldDescriptor (TX2 k).2.2.1 = some (tyX2 k) := by decide +kernel
abbrev cX2_init : ByteArray := prog_4_method_1_code
def yX2_init : MethodName := ⟨RX2, "<init>", "()V"⟩
abbrev cX2_copyFrom : ByteArray := prog_4_method_2_code
def yX2_copyFrom : MethodName := ⟨RX2, "copyFrom", "(LSaggarKiln$Reasons;)V"⟩
abbrev cX2_refuse : ByteArray := prog_4_method_3_code
def yX2_refuse : MethodName := ⟨RX2, "refuse", "(II)I"⟩
abbrev cX2_note : ByteArray := prog_4_method_4_code
def yX2_note : MethodName := ⟨RX2, "note", "(II)V"⟩
abbrev cX2_noteAhead : ByteArray := prog_4_method_5_code
def yX2_noteAhead : MethodName := ⟨RX2, "noteAhead", "(II)V"⟩
def RX3 : String := "SaggarKiln$Saggars"
def TX3 : u_T := fun k => match k with
  | 0 => ("SaggarKiln$Saggars", "count", "I", false)
  | 1 => ("SaggarKiln$Saggars", "bung", "[I", true)
  | _ => ("SaggarKiln$Saggars", "level", "[I", true)
def tyX3 : Nat → FieldType := fun k => match k with
  | 0 => .int
  | 1 => .array .int
  | _ => .array .int
abbrev wsX30 : List Cond := u_ws RX3 TX3 3
theorem nmX3 : ∀ a, a < 3 → ∀ b, b < 3 → a ≠ b → (TX3 a).2.1 ≠ (TX3 b).2.1 := by decide +kernel
theorem tyX3_ok : ∀ k, k < 3 → parseFieldDescriptor (TX3 k).2.2.1 = some (tyX3 k) := by decide +kernel
abbrev cX3_init : ByteArray := prog_5_method_1_code
def yX3_init : MethodName := ⟨RX3, "<init>", "()V"⟩
abbrev cX3_copyFrom : ByteArray := prog_5_method_2_code
def yX3_copyFrom : MethodName := ⟨RX3, "copyFrom", "(LSaggarKiln$Saggars;)V"⟩
abbrev cX3_has : ByteArray := prog_5_method_3_code
def yX3_has : MethodName := ⟨RX3, "has", "(I)Z"⟩
abbrev cX3_add : ByteArray := prog_5_method_4_code
def yX3_add : MethodName := ⟨RX3, "add", "()I"⟩
abbrev cX3_place : ByteArray := prog_5_method_5_code
def yX3_place : MethodName := ⟨RX3, "place", "(III)V"⟩
abbrev cX3_isInKiln : ByteArray := prog_5_method_6_code
def yX3_isInKiln : MethodName := ⟨RX3, "isInKiln", "(I)Z"⟩
abbrev cX3_at : ByteArray := prog_5_method_7_code
def yX3_at : MethodName := ⟨RX3, "at", "(II)I"⟩
abbrev cX3_above : ByteArray := prog_5_method_8_code
def yX3_above : MethodName := ⟨RX3, "above", "(I)I"⟩
abbrev cX3_below : ByteArray := prog_5_method_9_code
def yX3_below : MethodName := ⟨RX3, "below", "(I)I"⟩
abbrev cX3_heatThere : ByteArray := prog_5_method_10_code
def yX3_heatThere : MethodName := ⟨RX3, "heatThere", "(II)I"⟩
abbrev cX3_countInKiln : ByteArray := prog_5_method_11_code
def yX3_countInKiln : MethodName := ⟨RX3, "countInKiln", "()I"⟩
def RX4 : String := "SaggarKiln$StepText"
def TX4 : u_T := fun k => match k with
  | 0 => ("SaggarKiln$StepText", "length", "I", false)
  | 1 => ("SaggarKiln$StepText", "steps", "I", false)
  | 2 => ("SaggarKiln$StepText", "verbs", "[C", true)
  | 3 => ("SaggarKiln$StepText", "numbers", "[[I", true)
  | 4 => ("SaggarKiln$StepText", "signs", "[C", true)
  | _ => ("SaggarKiln$StepText", "at", "I", false)
def tyX4 : Nat → FieldType := fun k => match k with
  | 0 => .int
  | 1 => .int
  | 2 => .array .char
  | 3 => .array (.array .int)
  | 4 => .array .char
  | _ => .int
abbrev wsX40 : List Cond := u_ws RX4 TX4 6
theorem nmX4 : ∀ a, a < 6 → ∀ b, b < 6 → a ≠ b → (TX4 a).2.1 ≠ (TX4 b).2.1 := by decide +kernel
theorem tyX4_ok : ∀ k, k < 6 → parseFieldDescriptor (TX4 k).2.2.1 = some (tyX4 k) := by decide +kernel
abbrev cX4_init : ByteArray := prog_6_method_1_code
def yX4_init : MethodName := ⟨RX4, "<init>", "()V"⟩
abbrev cX4_isFull : ByteArray := prog_6_method_2_code
def yX4_isFull : MethodName := ⟨RX4, "isFull", "()Z"⟩
abbrev cX4_add : ByteArray := prog_6_method_3_code
def yX4_add : MethodName := ⟨RX4, "add", "(C)V"⟩
abbrev cX4_clear : ByteArray := prog_6_method_4_code
def yX4_clear : MethodName := ⟨RX4, "clear", "()V"⟩
abbrev cX4_parse : ByteArray := prog_6_method_5_code
def yX4_parse : MethodName := ⟨RX4, "parse", "()I"⟩
abbrev cX4_passStep : ByteArray := prog_6_method_6_code
def yX4_passStep : MethodName := ⟨RX4, "passStep", "(I)Z"⟩
abbrev cX4_passSign : ByteArray := prog_6_method_7_code
def yX4_passSign : MethodName := ⟨RX4, "passSign", "(C)Z"⟩
abbrev cX4_passNumber : ByteArray := prog_6_method_8_code
def yX4_passNumber : MethodName := ⟨RX4, "passNumber", "(IIII)Z"⟩
def RX5 : String := "SaggarKiln$Wares"
def TX5 : u_T := fun k => match k with
  | 0 => ("SaggarKiln$Wares", "count", "I", false)
  | 1 => ("SaggarKiln$Wares", "state", "[I", true)
  | 2 => ("SaggarKiln$Wares", "glaze", "[I", true)
  | 3 => ("SaggarKiln$Wares", "thickness", "[I", true)
  | 4 => ("SaggarKiln$Wares", "saggar", "[I", true)
  | 5 => ("SaggarKiln$Wares", "grade", "[I", true)
  | 6 => ("SaggarKiln$Wares", "kind", "[I", true)
  | _ => ("SaggarKiln$Wares", "bone", "[I", true)
def tyX5 : Nat → FieldType := fun k => match k with
  | 0 => .int
  | 1 => .array .int
  | 2 => .array .int
  | 3 => .array .int
  | 4 => .array .int
  | 5 => .array .int
  | 6 => .array .int
  | _ => .array .int
abbrev wsX50 : List Cond := u_ws RX5 TX5 8
theorem nmX5 : ∀ a, a < 8 → ∀ b, b < 8 → a ≠ b → (TX5 a).2.1 ≠ (TX5 b).2.1 := by decide +kernel
theorem tyX5_ok : ∀ k, k < 8 → parseFieldDescriptor (TX5 k).2.2.1 = some (tyX5 k) := by decide +kernel
abbrev cX5_init : ByteArray := prog_7_method_1_code
def yX5_init : MethodName := ⟨RX5, "<init>", "()V"⟩
abbrev cX5_copyFrom : ByteArray := prog_7_method_2_code
def yX5_copyFrom : MethodName := ⟨RX5, "copyFrom", "(LSaggarKiln$Wares;)V"⟩
abbrev cX5_has : ByteArray := prog_7_method_3_code
def yX5_has : MethodName := ⟨RX5, "has", "(I)Z"⟩
abbrev cX5_add : ByteArray := prog_7_method_4_code
def yX5_add : MethodName := ⟨RX5, "add", "(II)V"⟩
abbrev cX5_sizeOf : ByteArray := prog_7_method_5_code
def yX5_sizeOf : MethodName := ⟨RX5, "sizeOf", "(I)I"⟩
abbrev cX5_needOf : ByteArray := prog_7_method_6_code
def yX5_needOf : MethodName := ⟨RX5, "needOf", "(I)I"⟩
abbrev cX5_isGlazed : ByteArray := prog_7_method_7_code
def yX5_isGlazed : MethodName := ⟨RX5, "isGlazed", "(I)Z"⟩
abbrev cX5_meltingHeatOf : ByteArray := prog_7_method_8_code
def yX5_meltingHeatOf : MethodName := ⟨RX5, "meltingHeatOf", "(I)I"⟩
abbrev cX5_flowAt : ByteArray := prog_7_method_9_code
def yX5_flowAt : MethodName := ⟨RX5, "flowAt", "(II)I"⟩
abbrev cX5_takeOut : ByteArray := prog_7_method_10_code
def yX5_takeOut : MethodName := ⟨RX5, "takeOut", "(I)V"⟩
abbrev cX5_isInStore : ByteArray := prog_7_method_11_code
def yX5_isInStore : MethodName := ⟨RX5, "isInStore", "(III)Z"⟩
abbrev cX5_countInStore : ByteArray := prog_7_method_12_code
def yX5_countInStore : MethodName := ⟨RX5, "countInStore", "(III)I"⟩
abbrev cX5_countInState : ByteArray := prog_7_method_13_code
def yX5_countInState : MethodName := ⟨RX5, "countInState", "(I)I"⟩
abbrev cX5_countSold : ByteArray := prog_7_method_14_code
def yX5_countSold : MethodName := ⟨RX5, "countSold", "(I)I"⟩
abbrev cX5_countOfGrade : ByteArray := prog_7_method_15_code
def yX5_countOfGrade : MethodName := ⟨RX5, "countOfGrade", "(I)I"⟩
abbrev cX5_countFired : ByteArray := prog_7_method_16_code
def yX5_countFired : MethodName := ⟨RX5, "countFired", "()I"⟩
abbrev cX5_countIn : ByteArray := prog_7_method_17_code
def yX5_countIn : MethodName := ⟨RX5, "countIn", "(I)I"⟩
abbrev cX5_sizeIn : ByteArray := prog_7_method_18_code
def yX5_sizeIn : MethodName := ⟨RX5, "sizeIn", "(I)I"⟩
abbrev cX5_sizeOfAll : ByteArray := prog_7_method_19_code
def yX5_sizeOfAll : MethodName := ⟨RX5, "sizeOfAll", "()I"⟩
abbrev cX5_numberOf : ByteArray := prog_7_method_20_code
def yX5_numberOf : MethodName := ⟨RX5, "numberOf", "(II)I"⟩
def RX6 : String := "SaggarKiln$Works"
def TX6 : u_T := fun k => match k with
  | 0 => ("SaggarKiln$Works", "wares", "LSaggarKiln$Wares;", true)
  | 1 => ("SaggarKiln$Works", "saggars", "LSaggarKiln$Saggars;", true)
  | 2 => ("SaggarKiln$Works", "orders", "LSaggarKiln$Orders;", true)
  | 3 => ("SaggarKiln$Works", "why", "LSaggarKiln$Reasons;", true)
  | 4 => ("SaggarKiln$Works", "settings", "[I", true)
  | 5 => ("SaggarKiln$Works", "stock", "I", false)
  | 6 => ("SaggarKiln$Works", "bought", "I", false)
  | _ => ("SaggarKiln$Works", "firings", "I", false)
def tyX6 : Nat → FieldType := fun k => match k with
  | 0 => .object "SaggarKiln$Wares"
  | 1 => .object "SaggarKiln$Saggars"
  | 2 => .object "SaggarKiln$Orders"
  | 3 => .object "SaggarKiln$Reasons"
  | 4 => .array .int
  | 5 => .int
  | 6 => .int
  | _ => .int
abbrev wsX60 : List Cond := u_ws RX6 TX6 8
theorem nmX6 : ∀ a, a < 8 → ∀ b, b < 8 → a ≠ b → (TX6 a).2.1 ≠ (TX6 b).2.1 := by decide +kernel
theorem tyX6_ok : ∀ k, k < 8 → parseFieldDescriptor (TX6 k).2.2.1 = some (tyX6 k) := by decide +kernel
abbrev cX6_init : ByteArray := prog_8_method_1_code
def yX6_init : MethodName := ⟨RX6, "<init>", "()V"⟩
abbrev cX6_copyFrom : ByteArray := prog_8_method_2_code
def yX6_copyFrom : MethodName := ⟨RX6, "copyFrom", "(LSaggarKiln$Works;)V"⟩
abbrev cX6_changeSetting : ByteArray := prog_8_method_3_code
def yX6_changeSetting : MethodName := ⟨RX6, "changeSetting", "(II)I"⟩
abbrev cX6_buyClay : ByteArray := prog_8_method_4_code
def yX6_buyClay : MethodName := ⟨RX6, "buyClay", "(I)I"⟩
abbrev cX6_throwWares : ByteArray := prog_8_method_5_code
def yX6_throwWares : MethodName := ⟨RX6, "throwWares", "(III)I"⟩
abbrev cX6_coatWare : ByteArray := prog_8_method_6_code
def yX6_coatWare : MethodName := ⟨RX6, "coatWare", "(III)I"⟩
abbrev cX6_addSaggar : ByteArray := prog_8_method_7_code
def yX6_addSaggar : MethodName := ⟨RX6, "addSaggar", "()I"⟩
abbrev cX6_standInKiln : ByteArray := prog_8_method_8_code
def yX6_standInKiln : MethodName := ⟨RX6, "standInKiln", "(III)I"⟩
abbrev cX6_standOnFloor : ByteArray := prog_8_method_9_code
def yX6_standOnFloor : MethodName := ⟨RX6, "standOnFloor", "(I)I"⟩
abbrev cX6_putWare : ByteArray := prog_8_method_10_code
def yX6_putWare : MethodName := ⟨RX6, "putWare", "(II)I"⟩
abbrev cX6_fireWares : ByteArray := prog_8_method_11_code
def yX6_fireWares : MethodName := ⟨RX6, "fireWares", "(I)I"⟩
abbrev cX6_emptySaggar : ByteArray := prog_8_method_12_code
def yX6_emptySaggar : MethodName := ⟨RX6, "emptySaggar", "(I)I"⟩
abbrev cX6_addOrder : ByteArray := prog_8_method_13_code
def yX6_addOrder : MethodName := ⟨RX6, "addOrder", "(IIIIIZ)I"⟩
abbrev cX6_sellSet : ByteArray := prog_8_method_14_code
def yX6_sellSet : MethodName := ⟨RX6, "sellSet", "(I)I"⟩
abbrev cX6_noteFailedStep : ByteArray := prog_8_method_15_code
def yX6_noteFailedStep : MethodName := ⟨RX6, "noteFailedStep", "(II)V"⟩
abbrev cX6_sellAllSets : ByteArray := prog_8_method_16_code
def yX6_sellAllSets : MethodName := ⟨RX6, "sellAllSets", "(I)I"⟩
abbrev cX6_setsByDivision : ByteArray := prog_8_method_17_code
def yX6_setsByDivision : MethodName := ⟨RX6, "setsByDivision", "(I)I"⟩
abbrev cX6_lackingKind : ByteArray := prog_8_method_18_code
def yX6_lackingKind : MethodName := ⟨RX6, "lackingKind", "(I)I"⟩
abbrev cX6_countFor : ByteArray := prog_8_method_19_code
def yX6_countFor : MethodName := ⟨RX6, "countFor", "(II)I"⟩
abbrev cX6_takeSet : ByteArray := prog_8_method_20_code
def yX6_takeSet : MethodName := ⟨RX6, "takeSet", "(I)V"⟩
abbrev cX6_isThereToFire : ByteArray := prog_8_method_21_code
def yX6_isThereToFire : MethodName := ⟨RX6, "isThereToFire", "()Z"⟩
abbrev cX6_firstsBy : ByteArray := prog_8_method_22_code
def yX6_firstsBy : MethodName := ⟨RX6, "firstsBy", "(I)I"⟩
abbrev cX6_isToFire : ByteArray := prog_8_method_23_code
def yX6_isToFire : MethodName := ⟨RX6, "isToFire", "(I)Z"⟩
abbrev cX6_gradeByFiring : ByteArray := prog_8_method_24_code
def yX6_gradeByFiring : MethodName := ⟨RX6, "gradeByFiring", "(II)I"⟩
abbrev cX6_gradeAt : ByteArray := prog_8_method_25_code
def yX6_gradeAt : MethodName := ⟨RX6, "gradeAt", "(II)I"⟩
abbrev cX6_weightOf : ByteArray := prog_8_method_26_code
def yX6_weightOf : MethodName := ⟨RX6, "weightOf", "(I)I"⟩
abbrev cX6_roomIn : ByteArray := prog_8_method_27_code
def yX6_roomIn : MethodName := ⟨RX6, "roomIn", "(I)I"⟩
abbrev cX6_overloadedBelow : ByteArray := prog_8_method_28_code
def yX6_overloadedBelow : MethodName := ⟨RX6, "overloadedBelow", "(III)I"⟩
abbrev cX6_weightAbove : ByteArray := prog_8_method_29_code
def yX6_weightAbove : MethodName := ⟨RX6, "weightAbove", "(I)I"⟩
abbrev cX6_weightOfRestOfBung : ByteArray := prog_8_method_30_code
def yX6_weightOfRestOfBung : MethodName := ⟨RX6, "weightOfRestOfBung", "(I)I"⟩
abbrev cX6_sumOfLoads : ByteArray := prog_8_method_31_code
def yX6_sumOfLoads : MethodName := ⟨RX6, "sumOfLoads", "()I"⟩
abbrev cX6_numberOfSaggar : ByteArray := prog_8_method_32_code
def yX6_numberOfSaggar : MethodName := ⟨RX6, "numberOfSaggar", "(II)I"⟩
abbrev cX6_accountOf : ByteArray := prog_8_method_33_code
def yX6_accountOf : MethodName := ⟨RX6, "accountOf", "(I)I"⟩
abbrev cX6_isClayBalanced : ByteArray := prog_8_method_34_code
def yX6_isClayBalanced : MethodName := ⟨RX6, "isClayBalanced", "()Z"⟩
abbrev cX6_areSalesBalanced : ByteArray := prog_8_method_35_code
def yX6_areSalesBalanced : MethodName := ⟨RX6, "areSalesBalanced", "()Z"⟩
abbrev cX6_areLoadsBalanced : ByteArray := prog_8_method_36_code
def yX6_areLoadsBalanced : MethodName := ⟨RX6, "areLoadsBalanced", "()Z"⟩
def RX7 : String := "SaggarKiln"
def TX7 : u_T := fun k => match k with
  | 0 => ("SaggarKiln", "reasons", "LSaggarKiln$Reasons;", true)
  | 1 => ("SaggarKiln", "history", "LSaggarKiln$History;", true)
  | 2 => ("SaggarKiln", "text", "LSaggarKiln$StepText;", true)
  | 3 => ("SaggarKiln", "now", "LSaggarKiln$Works;", false)
  | 4 => ("SaggarKiln", "draft", "LSaggarKiln$Works;", false)
  | 5 => ("SaggarKiln", "snapshot", "LSaggarKiln$Works;", true)
  | 6 => ("SaggarKiln", "hasSnapshot", "Z", false)
  | _ => ("SaggarKiln", "fault", "I", false)
def tyX7 : Nat → FieldType := fun k => match k with
  | 0 => .object "SaggarKiln$Reasons"
  | 1 => .object "SaggarKiln$History"
  | 2 => .object "SaggarKiln$StepText"
  | 3 => .object "SaggarKiln$Works"
  | 4 => .object "SaggarKiln$Works"
  | 5 => .object "SaggarKiln$Works"
  | 6 => .boolean
  | _ => .int
abbrev wsX70 : List Cond := u_ws RX7 TX7 8
theorem nmX7 : ∀ a, a < 8 → ∀ b, b < 8 → a ≠ b → (TX7 a).2.1 ≠ (TX7 b).2.1 := by decide +kernel
theorem tyX7_ok : ∀ k, k < 8 → parseFieldDescriptor (TX7 k).2.2.1 = some (tyX7 k) := by decide +kernel
abbrev cX7_init : ByteArray := prog_1_method_1_code
def yX7_init : MethodName := ⟨RX7, "<init>", "()V"⟩
abbrev cX7_set : ByteArray := prog_1_method_2_code
def yX7_set : MethodName := ⟨RX7, "set", "(II)I"⟩
abbrev cX7_clay : ByteArray := prog_1_method_3_code
def yX7_clay : MethodName := ⟨RX7, "clay", "(I)I"⟩
abbrev cX7_cast : ByteArray := prog_1_method_4_code
def yX7_cast : MethodName := ⟨RX7, "cast", "(III)I"⟩
abbrev cX7_glaze : ByteArray := prog_1_method_5_code
def yX7_glaze : MethodName := ⟨RX7, "glaze", "(III)I"⟩
abbrev cX7_saggar : ByteArray := prog_1_method_6_code
def yX7_saggar : MethodName := ⟨RX7, "saggar", "()I"⟩
abbrev cX7_stack : ByteArray := prog_1_method_7_code
def yX7_stack : MethodName := ⟨RX7, "stack", "(III)I"⟩
abbrev cX7_unstack : ByteArray := prog_1_method_8_code
def yX7_unstack : MethodName := ⟨RX7, "unstack", "(I)I"⟩
abbrev cX7_put : ByteArray := prog_1_method_9_code
def yX7_put : MethodName := ⟨RX7, "put", "(II)I"⟩
abbrev cX7_fire : ByteArray := prog_1_method_10_code
def yX7_fire : MethodName := ⟨RX7, "fire", "(I)I"⟩
abbrev cX7_empty : ByteArray := prog_1_method_11_code
def yX7_empty : MethodName := ⟨RX7, "empty", "(I)I"⟩
abbrev cX7_order : ByteArray := prog_1_method_12_code
def yX7_order : MethodName := ⟨RX7, "order", "(IIIIIZ)I"⟩
abbrev cX7_sell : ByteArray := prog_1_method_13_code
def yX7_sell : MethodName := ⟨RX7, "sell", "(I)I"⟩
abbrev cX7_ware : ByteArray := prog_1_method_14_code
def yX7_ware : MethodName := ⟨RX7, "ware", "(II)I"⟩
abbrev cX7_saggarOf : ByteArray := prog_1_method_15_code
def yX7_saggarOf : MethodName := ⟨RX7, "saggarOf", "(II)I"⟩
abbrev cX7_load : ByteArray := prog_1_method_16_code
def yX7_load : MethodName := ⟨RX7, "load", "(I)I"⟩
abbrev cX7_loadAgain : ByteArray := prog_1_method_17_code
def yX7_loadAgain : MethodName := ⟨RX7, "loadAgain", "(I)I"⟩
abbrev cX7_orderOf : ByteArray := prog_1_method_18_code
def yX7_orderOf : MethodName := ⟨RX7, "orderOf", "(II)I"⟩
abbrev cX7_sign : ByteArray := prog_1_method_19_code
def yX7_sign : MethodName := ⟨RX7, "sign", "(I)C"⟩
abbrev cX7_store : ByteArray := prog_1_method_20_code
def yX7_store : MethodName := ⟨RX7, "store", "(IIZ)I"⟩
abbrev cX7_heatAt : ByteArray := prog_1_method_21_code
def yX7_heatAt : MethodName := ⟨RX7, "heatAt", "(II)I"⟩
abbrev cX7_wouldBe : ByteArray := prog_1_method_22_code
def yX7_wouldBe : MethodName := ⟨RX7, "wouldBe", "(II)I"⟩
abbrev cX7_bestHeat : ByteArray := prog_1_method_23_code
def yX7_bestHeat : MethodName := ⟨RX7, "bestHeat", "(Z)I"⟩
abbrev cX7_sets : ByteArray := prog_1_method_24_code
def yX7_sets : MethodName := ⟨RX7, "sets", "(I)I"⟩
abbrev cX7_setsAgain : ByteArray := prog_1_method_25_code
def yX7_setsAgain : MethodName := ⟨RX7, "setsAgain", "(I)I"⟩
abbrev cX7_append : ByteArray := prog_1_method_26_code
def yX7_append : MethodName := ⟨RX7, "append", "(C)I"⟩
abbrev cX7_read : ByteArray := prog_1_method_27_code
def yX7_read : MethodName := ⟨RX7, "read", "()I"⟩
abbrev cX7_refusal : ByteArray := prog_1_method_29_code
def yX7_refusal : MethodName := ⟨RX7, "refusal", "(IZ)I"⟩
abbrev cX7_account : ByteArray := prog_1_method_30_code
def yX7_account : MethodName := ⟨RX7, "account", "(I)I"⟩
abbrev cX7_isBalanced : ByteArray := prog_1_method_31_code
def yX7_isBalanced : MethodName := ⟨RX7, "isBalanced", "()Z"⟩
abbrev cX7_firstShare : ByteArray := prog_1_method_32_code
def yX7_firstShare : MethodName := ⟨RX7, "firstShare", "()D"⟩
abbrev cX7_meanLoad : ByteArray := prog_1_method_33_code
def yX7_meanLoad : MethodName := ⟨RX7, "meanLoad", "()F"⟩
abbrev cX7_undo : ByteArray := prog_1_method_34_code
def yX7_undo : MethodName := ⟨RX7, "undo", "()I"⟩
abbrev cX7_freshDraft : ByteArray := prog_1_method_37_code
def yX7_freshDraft : MethodName := ⟨RX7, "freshDraft", "()LSaggarKiln$Works;"⟩
abbrev cX7_settle : ByteArray := prog_1_method_38_code
def yX7_settle : MethodName := ⟨RX7, "settle", "(I)I"⟩
abbrev cX7_doStep : ByteArray := prog_1_method_39_code
def yX7_doStep : MethodName := ⟨RX7, "doStep", "(LSaggarKiln$Works;I)I"⟩
abbrev cX7_needWare : ByteArray := prog_1_method_40_code
def yX7_needWare : MethodName := ⟨RX7, "needWare", "(I)V"⟩
abbrev cX7_needSaggar : ByteArray := prog_1_method_41_code
def yX7_needSaggar : MethodName := ⟨RX7, "needSaggar", "(I)V"⟩
abbrev cX7_needOrder : ByteArray := prog_1_method_42_code
def yX7_needOrder : MethodName := ⟨RX7, "needOrder", "(I)V"⟩
abbrev cX7_needRange : ByteArray := prog_1_method_43_code
def yX7_needRange : MethodName := ⟨RX7, "needRange", "(III)V"⟩
abbrev cX7_isFrom : ByteArray := prog_1_method_44_code
def yX7_isFrom : MethodName := ⟨RX7, "isFrom", "(III)Z"⟩
def RX8 : String := "SaggarKilnModel"
def TX8 : u_T := fun k => match k with
  | _ => ("", "", "", false)
def tyX8 : Nat → FieldType := fun k => match k with
  | _ => .int
abbrev wsX80 : List Cond := u_ws RX8 TX8 0
theorem nmX8 : ∀ a, a < 0 → ∀ b, b < 0 → a ≠ b → (TX8 a).2.1 ≠ (TX8 b).2.1 := by decide +kernel
theorem tyX8_ok : ∀ k, k < 0 → parseFieldDescriptor (TX8 k).2.2.1 = some (tyX8 k) := by decide +kernel
def RL : String := "SaggarKilnLaw"
abbrev cL_cell : ByteArray := method_2_code
def yL_cell : MethodName := ⟨RL, "cell", "([II)I"⟩
abbrev cL_set : ByteArray := method_3_code
def yL_set : MethodName := ⟨RL, "set", "(LSaggarKiln;II)I"⟩
abbrev cL_clay : ByteArray := method_4_code
def yL_clay : MethodName := ⟨RL, "clay", "(LSaggarKiln;I)I"⟩
abbrev cL_cast : ByteArray := method_5_code
def yL_cast : MethodName := ⟨RL, "cast", "(LSaggarKiln;III)I"⟩
abbrev cL_glaze : ByteArray := method_6_code
def yL_glaze : MethodName := ⟨RL, "glaze", "(LSaggarKiln;III)I"⟩
abbrev cL_saggar : ByteArray := method_7_code
def yL_saggar : MethodName := ⟨RL, "saggar", "(LSaggarKiln;)I"⟩
abbrev cL_stack : ByteArray := method_8_code
def yL_stack : MethodName := ⟨RL, "stack", "(LSaggarKiln;III)I"⟩
abbrev cL_unstack : ByteArray := method_9_code
def yL_unstack : MethodName := ⟨RL, "unstack", "(LSaggarKiln;I)I"⟩
abbrev cL_put : ByteArray := method_10_code
def yL_put : MethodName := ⟨RL, "put", "(LSaggarKiln;II)I"⟩
abbrev cL_fire : ByteArray := method_11_code
def yL_fire : MethodName := ⟨RL, "fire", "(LSaggarKiln;I)I"⟩
abbrev cL_empty : ByteArray := method_12_code
def yL_empty : MethodName := ⟨RL, "empty", "(LSaggarKiln;I)I"⟩
abbrev cL_order : ByteArray := method_13_code
def yL_order : MethodName := ⟨RL, "order", "(LSaggarKiln;IIIIIZ)I"⟩
abbrev cL_sell : ByteArray := method_14_code
def yL_sell : MethodName := ⟨RL, "sell", "(LSaggarKiln;I)I"⟩
abbrev cL_ware : ByteArray := method_15_code
def yL_ware : MethodName := ⟨RL, "ware", "(LSaggarKiln;II)I"⟩
abbrev cL_of : ByteArray := method_16_code
def yL_of : MethodName := ⟨RL, "of", "(LSaggarKiln;II)I"⟩
abbrev cL_heatAt : ByteArray := method_17_code
def yL_heatAt : MethodName := ⟨RL, "heatAt", "(LSaggarKiln;II)I"⟩
abbrev cL_wouldBe : ByteArray := method_18_code
def yL_wouldBe : MethodName := ⟨RL, "wouldBe", "(LSaggarKiln;II)I"⟩
abbrev cL_best : ByteArray := method_19_code
def yL_best : MethodName := ⟨RL, "best", "(LSaggarKiln;Z)I"⟩
abbrev cL_append : ByteArray := method_20_code
def yL_append : MethodName := ⟨RL, "append", "(LSaggarKiln;C)I"⟩
abbrev cL_reads : ByteArray := method_21_code
def yL_reads : MethodName := ⟨RL, "reads", "(LSaggarKiln;)I"⟩
abbrev cL_read : ByteArray := method_22_code
def yL_read : MethodName := ⟨RL, "read", "(LSaggarKiln;Ljava/lang/String;)I"⟩
abbrev cL_refusal : ByteArray := method_23_code
def yL_refusal : MethodName := ⟨RL, "refusal", "(LSaggarKiln;IZ)I"⟩
abbrev cL_undo : ByteArray := method_24_code
def yL_undo : MethodName := ⟨RL, "undo", "(LSaggarKiln;)I"⟩
abbrev cL_drawn : ByteArray := method_25_code
def yL_drawn : MethodName := ⟨RL, "drawn", "([I)LSaggarKiln;"⟩
abbrev cL_law : ByteArray := code
def yL_law : MethodName := ⟨RL, "law", "([I)Z"⟩
abbrev cL_stacks : ByteArray := method_27_code
def yL_stacks : MethodName := ⟨RL, "stacks", "(LSaggarKiln;)Z"⟩
abbrev cL_store : ByteArray := method_28_code
def yL_store : MethodName := ⟨RL, "store", "(LSaggarKiln;IIZ)I"⟩
abbrev cL_stores : ByteArray := method_29_code
def yL_stores : MethodName := ⟨RL, "stores", "(LSaggarKiln;)Z"⟩
abbrev cL_sets : ByteArray := method_30_code
def yL_sets : MethodName := ⟨RL, "sets", "(LSaggarKiln;IZ)I"⟩
abbrev cL_sells : ByteArray := method_31_code
def yL_sells : MethodName := ⟨RL, "sells", "(LSaggarKiln;)Z"⟩
abbrev cL_fires : ByteArray := method_32_code
def yL_fires : MethodName := ⟨RL, "fires", "([ILSaggarKiln;)Z"⟩
abbrev cL_sum : ByteArray := method_33_code
def yL_sum : MethodName := ⟨RL, "sum", "(LSaggarKiln;)J"⟩
abbrev cL_undone : ByteArray := method_34_code
def yL_undone : MethodName := ⟨RL, "undone", "([ILSaggarKiln;)Z"⟩
