-- ===== PART A: goes FIRST, ahead of the names: the tables' words, and 'selects' of the private methods out of them =====
/-- a private method of a class that the tables say can be made, by its rows of tables_1 -/
def lw_okq (q : MethodName × Nat) : Prop := (q.1.cls ≠ "java/lang/invoke/MethodHandle" ∧ q.1.cls ≠ "java/lang/invoke/VarHandle") ∧ Cond.instantiable q.1.cls q.2 ∈ tables_1 ∧ Cond.privateMethod q.1 ∈ tables_1 ∧ Cond.instanceMethod q.1 ∈ tables_1
theorem lw_p0 : lw_okq (⟨"LockedToAnothers$Reader", "advance", "()V"⟩, 9) := ⟨⟨by decide +kernel, by decide +kernel⟩, List.mem_of_getElem? (i := 100) (by decide +kernel), List.mem_of_getElem? (i := 195) (by decide +kernel), List.mem_of_getElem? (i := 196) (by decide +kernel)⟩
theorem lw_p1 : lw_okq (⟨"LockedToAnothers$Reader", "scanWord", "()I"⟩, 9) := ⟨⟨by decide +kernel, by decide +kernel⟩, List.mem_of_getElem? (i := 100) (by decide +kernel), List.mem_of_getElem? (i := 202) (by decide +kernel), List.mem_of_getElem? (i := 203) (by decide +kernel)⟩
theorem lw_p2 : lw_okq (⟨"LockedToAnothers$Reader", "wordNumber", "()I"⟩, 9) := ⟨⟨by decide +kernel, by decide +kernel⟩, List.mem_of_getElem? (i := 100) (by decide +kernel), List.mem_of_getElem? (i := 206) (by decide +kernel), List.mem_of_getElem? (i := 207) (by decide +kernel)⟩
theorem lw_p3 : lw_okq (⟨"LockedToAnothers$Reader", "scanNumber", "()I"⟩, 9) := ⟨⟨by decide +kernel, by decide +kernel⟩, List.mem_of_getElem? (i := 100) (by decide +kernel), List.mem_of_getElem? (i := 213) (by decide +kernel), List.mem_of_getElem? (i := 214) (by decide +kernel)⟩
theorem lw_p4 : lw_okq (⟨"LockedToAnothers$Reader", "demand", "(I)V"⟩, 9) := ⟨⟨by decide +kernel, by decide +kernel⟩, List.mem_of_getElem? (i := 100) (by decide +kernel), List.mem_of_getElem? (i := 277) (by decide +kernel), List.mem_of_getElem? (i := 278) (by decide +kernel)⟩
theorem lw_p5 : lw_okq (⟨"LockedToAnothers$Reader", "refuse", "()V"⟩, 9) := ⟨⟨by decide +kernel, by decide +kernel⟩, List.mem_of_getElem? (i := 100) (by decide +kernel), List.mem_of_getElem? (i := 281) (by decide +kernel), List.mem_of_getElem? (i := 282) (by decide +kernel)⟩
theorem lw_p6 : lw_okq (⟨"LockedToAnothers$Reader", "expression", "(II)V"⟩, 9) := ⟨⟨by decide +kernel, by decide +kernel⟩, List.mem_of_getElem? (i := 100) (by decide +kernel), List.mem_of_getElem? (i := 285) (by decide +kernel), List.mem_of_getElem? (i := 286) (by decide +kernel)⟩
theorem lw_p7 : lw_okq (⟨"LockedToAnothers$Reader", "one", "(I)V"⟩, 9) := ⟨⟨by decide +kernel, by decide +kernel⟩, List.mem_of_getElem? (i := 100) (by decide +kernel), List.mem_of_getElem? (i := 289) (by decide +kernel), List.mem_of_getElem? (i := 290) (by decide +kernel)⟩
theorem lw_p8 : lw_okq (⟨"LockedToAnothers$Reader", "write", "(I)V"⟩, 9) := ⟨⟨by decide +kernel, by decide +kernel⟩, List.mem_of_getElem? (i := 100) (by decide +kernel), List.mem_of_getElem? (i := 293) (by decide +kernel), List.mem_of_getElem? (i := 294) (by decide +kernel)⟩
theorem lw_p9 : lw_okq (⟨"LockedToAnothers$Reader", "joiner", "(I)I"⟩, 9) := ⟨⟨by decide +kernel, by decide +kernel⟩, List.mem_of_getElem? (i := 100) (by decide +kernel), List.mem_of_getElem? (i := 297) (by decide +kernel), List.mem_of_getElem? (i := 298) (by decide +kernel)⟩
theorem lw_p10 : lw_okq (⟨"LockedToAnothers$LawBook", "worth", "(II)I"⟩, 8) := ⟨⟨by decide +kernel, by decide +kernel⟩, List.mem_of_getElem? (i := 94) (by decide +kernel), List.mem_of_getElem? (i := 490) (by decide +kernel), List.mem_of_getElem? (i := 491) (by decide +kernel)⟩
theorem lw_p11 : lw_okq (⟨"LockedToAnothers$Orders", "countAll", "()V"⟩, 4) := ⟨⟨by decide +kernel, by decide +kernel⟩, List.mem_of_getElem? (i := 330) (by decide +kernel), List.mem_of_getElem? (i := 532) (by decide +kernel), List.mem_of_getElem? (i := 533) (by decide +kernel)⟩
theorem lw_p12 : lw_okq (⟨"LockedToAnothers", "cheapestSaws", "(II)I"⟩, 10) := ⟨⟨by decide +kernel, by decide +kernel⟩, List.mem_of_getElem? (i := 23) (by decide +kernel), List.mem_of_getElem? (i := 549) (by decide +kernel), List.mem_of_getElem? (i := 550) (by decide +kernel)⟩
theorem lw_p13 : lw_okq (⟨"LockedToAnothers", "priceOf", "(I)I"⟩, 10) := ⟨⟨by decide +kernel, by decide +kernel⟩, List.mem_of_getElem? (i := 23) (by decide +kernel), List.mem_of_getElem? (i := 553) (by decide +kernel), List.mem_of_getElem? (i := 554) (by decide +kernel)⟩
theorem lw_p14 : lw_okq (⟨"LockedToAnothers$Rail", "regrip", "(I)V"⟩, 12) := ⟨⟨by decide +kernel, by decide +kernel⟩, List.mem_of_getElem? (i := 31) (by decide +kernel), List.mem_of_getElem? (i := 599) (by decide +kernel), List.mem_of_getElem? (i := 600) (by decide +kernel)⟩
def lw_privs_1 : List (MethodName × Nat) := [(⟨"LockedToAnothers$Reader", "advance", "()V"⟩, 9), (⟨"LockedToAnothers$Reader", "scanWord", "()I"⟩, 9), (⟨"LockedToAnothers$Reader", "wordNumber", "()I"⟩, 9), (⟨"LockedToAnothers$Reader", "scanNumber", "()I"⟩, 9), (⟨"LockedToAnothers$Reader", "demand", "(I)V"⟩, 9), (⟨"LockedToAnothers$Reader", "refuse", "()V"⟩, 9), (⟨"LockedToAnothers$Reader", "expression", "(II)V"⟩, 9), (⟨"LockedToAnothers$Reader", "one", "(I)V"⟩, 9), (⟨"LockedToAnothers$Reader", "write", "(I)V"⟩, 9), (⟨"LockedToAnothers$Reader", "joiner", "(I)I"⟩, 9), (⟨"LockedToAnothers$LawBook", "worth", "(II)I"⟩, 8), (⟨"LockedToAnothers$Orders", "countAll", "()V"⟩, 4), (⟨"LockedToAnothers", "cheapestSaws", "(II)I"⟩, 10), (⟨"LockedToAnothers", "priceOf", "(I)I"⟩, 10), (⟨"LockedToAnothers$Rail", "regrip", "(I)V"⟩, 12)]
theorem lw_r1 : ∀ q ∈ lw_privs_1, lw_okq q := List.forall_mem_cons.mpr ⟨lw_p0, List.forall_mem_cons.mpr ⟨lw_p1, List.forall_mem_cons.mpr ⟨lw_p2, List.forall_mem_cons.mpr ⟨lw_p3, List.forall_mem_cons.mpr ⟨lw_p4, List.forall_mem_cons.mpr ⟨lw_p5, List.forall_mem_cons.mpr ⟨lw_p6, List.forall_mem_cons.mpr ⟨lw_p7, List.forall_mem_cons.mpr ⟨lw_p8, List.forall_mem_cons.mpr ⟨lw_p9, List.forall_mem_cons.mpr ⟨lw_p10, List.forall_mem_cons.mpr ⟨lw_p11, List.forall_mem_cons.mpr ⟨lw_p12, List.forall_mem_cons.mpr ⟨lw_p13, List.forall_mem_cons.mpr ⟨lw_p14, fun _ h => absurd h List.not_mem_nil⟩⟩⟩⟩⟩⟩⟩⟩⟩⟩⟩⟩⟩⟩⟩
def lw_privs : List (MethodName × Nat) := lw_privs_1
def lw_tbl : List Cond := k2_sels lw_privs ++ tables_1
theorem lw_privs_ok : ∀ q ∈ lw_privs, lw_okq q := lw_r1
-- ===== names, out of the printed NAMES text =====
def RX0 : String := "LockedToAnothers$Day"
def TX0 : u_T := fun k => match k with
  | 0 => ("LockedToAnothers$Day", "rail", "LLockedToAnothers$Rail;", true)
  | _ => ("LockedToAnothers$Day", "goesAt", "[I", true)
def tyX0 : Nat → FieldType := fun k => match k with
  | 0 => .object "LockedToAnothers$Rail"
  | _ => .array .int
abbrev wsX00 : List Cond := u_ws RX0 TX0 2
theorem nmX0 : ∀ a, a < 2 → ∀ b, b < 2 → a ≠ b → (TX0 a).2.1 ≠ (TX0 b).2.1 := by decide +kernel
theorem tyX0_ok : ∀ k, k < 2 → parseFieldDescriptor (TX0 k).2.2.1 = some (tyX0 k) := by decide +kernel
abbrev cX0_init : ByteArray := prog_2_method_1_code
def yX0_init : MethodName := ⟨RX0, "<init>", "(LLockedToAnothers$Rail;)V"⟩
def RX1 : String := "LockedToAnothers$Kinds"
def TX1 : u_T := fun k => match k with
  | _ => ("", "", "", false)
def tyX1 : Nat → FieldType := fun k => match k with
  | _ => .int
abbrev wsX10 : List Cond := u_ws RX1 TX1 0
theorem nmX1 : ∀ a, a < 0 → ∀ b, b < 0 → a ≠ b → (TX1 a).2.1 ≠ (TX1 b).2.1 := by decide +kernel
theorem tyX1_ok : ∀ k, k < 0 → parseFieldDescriptor (TX1 k).2.2.1 = some (tyX1 k) := by decide +kernel
abbrev cX1_isHeld : ByteArray := prog_3_method_2_code
def yX1_isHeld : MethodName := ⟨RX1, "isHeld", "(III)Z"⟩
abbrev cX1_goesIn : ByteArray := prog_3_method_4_code
def yX1_goesIn : MethodName := ⟨RX1, "goesIn", "(III)Z"⟩
abbrev cX1_everGoes : ByteArray := prog_3_method_5_code
def yX1_everGoes : MethodName := ⟨RX1, "everGoes", "(II)Z"⟩
def RX2 : String := "LockedToAnothers$LawBook"
def TX2 : u_T := fun k => match k with
  | 0 => ("LockedToAnothers$LawBook", "tape", "LLockedToAnothers$Reader;", true)
  | 1 => ("LockedToAnothers$LawBook", "texts", "I", false)
  | 2 => ("LockedToAnothers$LawBook", "inForce", "I", false)
  | 3 => ("LockedToAnothers$LawBook", "rail", "LLockedToAnothers$Rail;", true)
  | 4 => ("LockedToAnothers$LawBook", "steps", "[[I", true)
  | 5 => ("LockedToAnothers$LawBook", "ends", "[[I", true)
  | 6 => ("LockedToAnothers$LawBook", "names", "[I", true)
  | _ => ("LockedToAnothers$LawBook", "stack", "[I", true)
def tyX2 : Nat → FieldType := fun k => match k with
  | 0 => .object "LockedToAnothers$Reader"
  | 1 => .int
  | 2 => .int
  | 3 => .object "LockedToAnothers$Rail"
  | 4 => .array (.array .int)
  | 5 => .array (.array .int)
  | 6 => .array .int
  | _ => .array .int
abbrev wsX20 : List Cond := u_ws RX2 TX2 8
theorem nmX2 : ∀ a, a < 8 → ∀ b, b < 8 → a ≠ b → (TX2 a).2.1 ≠ (TX2 b).2.1 := by decide +kernel
theorem tyX2_ok : ∀ k, k < 8 → parseFieldDescriptor (TX2 k).2.2.1 = some (tyX2 k) := by decide +kernel
abbrev cX2_init : ByteArray := prog_4_method_1_code
def yX2_init : MethodName := ⟨RX2, "<init>", "(LLockedToAnothers$Rail;)V"⟩
abbrev cX2_takeTape : ByteArray := prog_4_method_2_code
def yX2_takeTape : MethodName := ⟨RX2, "takeTape", "()Z"⟩
abbrev cX2_says : ByteArray := prog_4_method_3_code
def yX2_says : MethodName := ⟨RX2, "says", "(IIIII)I"⟩
abbrev cX2_sawing : ByteArray := prog_4_method_4_code
def yX2_sawing : MethodName := ⟨RX2, "sawing", "(II)I"⟩
abbrev cX2_worth : ByteArray := prog_4_method_7_code
def yX2_worth : MethodName := ⟨RX2, "worth", "(II)I"⟩
abbrev cX2_joined : ByteArray := prog_4_method_8_code
def yX2_joined : MethodName := ⟨RX2, "joined", "(III)I"⟩
abbrev cX2_truth : ByteArray := prog_4_method_9_code
def yX2_truth : MethodName := ⟨RX2, "truth", "(Z)I"⟩
def RX3 : String := "LockedToAnothers$Orders"
def TX3 : u_T := fun k => match k with
  | 0 => ("LockedToAnothers$Orders", "rail", "LLockedToAnothers$Rail;", true)
  | 1 => ("LockedToAnothers$Orders", "counts", "[I", true)
  | 2 => ("LockedToAnothers$Orders", "lasts", "[I", true)
  | _ => ("LockedToAnothers$Orders", "awaits", "[I", true)
def tyX3 : Nat → FieldType := fun k => match k with
  | 0 => .object "LockedToAnothers$Rail"
  | 1 => .array .int
  | 2 => .array .int
  | _ => .array .int
abbrev wsX30 : List Cond := u_ws RX3 TX3 4
theorem nmX3 : ∀ a, a < 4 → ∀ b, b < 4 → a ≠ b → (TX3 a).2.1 ≠ (TX3 b).2.1 := by decide +kernel
theorem tyX3_ok : ∀ k, k < 4 → parseFieldDescriptor (TX3 k).2.2.1 = some (tyX3 k) := by decide +kernel
abbrev cX3_init : ByteArray := prog_5_method_1_code
def yX3_init : MethodName := ⟨RX3, "<init>", "(LLockedToAnothers$Rail;)V"⟩
abbrev cX3_countAll : ByteArray := prog_5_method_3_code
def yX3_countAll : MethodName := ⟨RX3, "countAll", "()V"⟩
abbrev cX3_goneAhead : ByteArray := prog_5_method_4_code
def yX3_goneAhead : MethodName := ⟨RX3, "goneAhead", "(I)I"⟩
abbrev cX3_fewestAhead : ByteArray := prog_5_method_5_code
def yX3_fewestAhead : MethodName := ⟨RX3, "fewestAhead", "(I)I"⟩
def RX4 : String := "LockedToAnothers$Rail"
def TX4 : u_T := fun k => match k with
  | 0 => ("LockedToAnothers$Rail", "things", "I", false)
  | 1 => ("LockedToAnothers$Rail", "gone", "I", false)
  | 2 => ("LockedToAnothers$Rail", "locks", "I", false)
  | 3 => ("LockedToAnothers$Rail", "sawn", "I", false)
  | 4 => ("LockedToAnothers$Rail", "ever", "I", false)
  | 5 => ("LockedToAnothers$Rail", "kindOf", "[I", true)
  | 6 => ("LockedToAnothers$Rail", "mores", "[I", true)
  | 7 => ("LockedToAnothers$Rail", "hours", "[I", true)
  | 8 => ("LockedToAnothers$Rail", "owners", "[I", true)
  | 9 => ("LockedToAnothers$Rail", "sorts", "[I", true)
  | 10 => ("LockedToAnothers$Rail", "sets", "[I", true)
  | _ => ("LockedToAnothers$Rail", "grips", "[I", true)
def tyX4 : Nat → FieldType := fun k => match k with
  | 0 => .int
  | 1 => .int
  | 2 => .int
  | 3 => .int
  | 4 => .int
  | 5 => .array .int
  | 6 => .array .int
  | 7 => .array .int
  | 8 => .array .int
  | 9 => .array .int
  | 10 => .array .int
  | _ => .array .int
abbrev wsX40 : List Cond := u_ws RX4 TX4 12
theorem nmX4 : ∀ a, a < 12 → ∀ b, b < 12 → a ≠ b → (TX4 a).2.1 ≠ (TX4 b).2.1 := by decide +kernel
theorem tyX4_ok : ∀ k, k < 12 → parseFieldDescriptor (TX4 k).2.2.1 = some (tyX4 k) := by decide +kernel
abbrev cX4_init : ByteArray := prog_6_method_1_code
def yX4_init : MethodName := ⟨RX4, "<init>", "()V"⟩
abbrev cX4_isThing : ByteArray := prog_6_method_2_code
def yX4_isThing : MethodName := ⟨RX4, "isThing", "(I)Z"⟩
abbrev cX4_isLock : ByteArray := prog_6_method_3_code
def yX4_isLock : MethodName := ⟨RX4, "isLock", "(I)Z"⟩
abbrev cX4_isGone : ByteArray := prog_6_method_4_code
def yX4_isGone : MethodName := ⟨RX4, "isGone", "(I)Z"⟩
abbrev cX4_isShut : ByteArray := prog_6_method_6_code
def yX4_isShut : MethodName := ⟨RX4, "isShut", "(I)Z"⟩
abbrev cX4_isThrough : ByteArray := prog_6_method_7_code
def yX4_isThrough : MethodName := ⟨RX4, "isThrough", "(I)Z"⟩
abbrev cX4_allThings : ByteArray := prog_6_method_8_code
def yX4_allThings : MethodName := ⟨RX4, "allThings", "()I"⟩
abbrev cX4_addThing : ByteArray := prog_6_method_9_code
def yX4_addThing : MethodName := ⟨RX4, "addThing", "(III)V"⟩
abbrev cX4_putKind : ByteArray := prog_6_method_10_code
def yX4_putKind : MethodName := ⟨RX4, "putKind", "(II)V"⟩
abbrev cX4_addLock : ByteArray := prog_6_method_11_code
def yX4_addLock : MethodName := ⟨RX4, "addLock", "(III)V"⟩
abbrev cX4_putSet : ByteArray := prog_6_method_14_code
def yX4_putSet : MethodName := ⟨RX4, "putSet", "(II)V"⟩
abbrev cX4_regrip : ByteArray := prog_6_method_15_code
def yX4_regrip : MethodName := ⟨RX4, "regrip", "(I)V"⟩
abbrev cX4_isFixing : ByteArray := prog_6_method_16_code
def yX4_isFixing : MethodName := ⟨RX4, "isFixing", "(II)Z"⟩
abbrev cX4_holders : ByteArray := prog_6_method_18_code
def yX4_holders : MethodName := ⟨RX4, "holders", "(I)I"⟩
abbrev cX4_awaited : ByteArray := prog_6_method_19_code
def yX4_awaited : MethodName := ⟨RX4, "awaited", "(I)I"⟩
abbrev cX4_canGo : ByteArray := prog_6_method_20_code
def yX4_canGo : MethodName := ⟨RX4, "canGo", "(II)I"⟩
abbrev cX4_goneAtLast : ByteArray := prog_6_method_21_code
def yX4_goneAtLast : MethodName := ⟨RX4, "goneAtLast", "(I)I"⟩
def RX5 : String := "LockedToAnothers$Reader"
def TX5 : u_T := fun k => match k with
  | 0 => ("LockedToAnothers$Reader", "size", "I", false)
  | 1 => ("LockedToAnothers$Reader", "place", "I", false)
  | 2 => ("LockedToAnothers$Reader", "behind", "I", false)
  | 3 => ("LockedToAnothers$Reader", "token", "I", false)
  | 4 => ("LockedToAnothers$Reader", "value", "I", false)
  | 5 => ("LockedToAnothers$Reader", "faulty", "Z", false)
  | 6 => ("LockedToAnothers$Reader", "written", "I", false)
  | 7 => ("LockedToAnothers$Reader", "steps", "[I", false)
  | _ => ("LockedToAnothers$Reader", "bytes", "[I", true)
def tyX5 : Nat → FieldType := fun k => match k with
  | 0 => .int
  | 1 => .int
  | 2 => .int
  | 3 => .int
  | 4 => .int
  | 5 => .boolean
  | 6 => .int
  | 7 => .array .int
  | _ => .array .int
abbrev wsX50 : List Cond := u_ws RX5 TX5 9
theorem nmX5 : ∀ a, a < 9 → ∀ b, b < 9 → a ≠ b → (TX5 a).2.1 ≠ (TX5 b).2.1 := by decide +kernel
theorem tyX5_ok : ∀ k, k < 9 → parseFieldDescriptor (TX5 k).2.2.1 = some (tyX5 k) := by decide +kernel
abbrev cX5_init : ByteArray := prog_7_method_1_code
def yX5_init : MethodName := ⟨RX5, "<init>", "()V"⟩
abbrev cX5_append : ByteArray := prog_7_method_2_code
def yX5_append : MethodName := ⟨RX5, "append", "(I)V"⟩
abbrev cX5_read : ByteArray := prog_7_method_3_code
def yX5_read : MethodName := ⟨RX5, "read", "([I[I)Z"⟩
abbrev cX5_refuse : ByteArray := prog_7_method_4_code
def yX5_refuse : MethodName := ⟨RX5, "refuse", "()V"⟩
abbrev cX5_demand : ByteArray := prog_7_method_5_code
def yX5_demand : MethodName := ⟨RX5, "demand", "(I)V"⟩
abbrev cX5_write : ByteArray := prog_7_method_6_code
def yX5_write : MethodName := ⟨RX5, "write", "(I)V"⟩
abbrev cX5_expression : ByteArray := prog_7_method_7_code
def yX5_expression : MethodName := ⟨RX5, "expression", "(II)V"⟩
abbrev cX5_joiner : ByteArray := prog_7_method_8_code
def yX5_joiner : MethodName := ⟨RX5, "joiner", "(I)I"⟩
abbrev cX5_one : ByteArray := prog_7_method_9_code
def yX5_one : MethodName := ⟨RX5, "one", "(I)V"⟩
abbrev cX5_advance : ByteArray := prog_7_method_10_code
def yX5_advance : MethodName := ⟨RX5, "advance", "()V"⟩
abbrev cX5_scanWord : ByteArray := prog_7_method_11_code
def yX5_scanWord : MethodName := ⟨RX5, "scanWord", "()I"⟩
abbrev cX5_scanNumber : ByteArray := prog_7_method_12_code
def yX5_scanNumber : MethodName := ⟨RX5, "scanNumber", "()I"⟩
abbrev cX5_wordNumber : ByteArray := prog_7_method_13_code
def yX5_wordNumber : MethodName := ⟨RX5, "wordNumber", "()I"⟩
abbrev cX5_isIn : ByteArray := prog_7_method_14_code
def yX5_isIn : MethodName := ⟨RX5, "isIn", "(ICC)Z"⟩
def RX6 : String := "LockedToAnothers$Sheet"
def TX6 : u_T := fun k => match k with
  | 0 => ("LockedToAnothers$Sheet", "sort", "I", false)
  | 1 => ("LockedToAnothers$Sheet", "size", "I", false)
  | _ => ("LockedToAnothers$Sheet", "numbers", "[I", true)
def tyX6 : Nat → FieldType := fun k => match k with
  | 0 => .int
  | 1 => .int
  | _ => .array .int
abbrev wsX60 : List Cond := u_ws RX6 TX6 3
theorem nmX6 : ∀ a, a < 3 → ∀ b, b < 3 → a ≠ b → (TX6 a).2.1 ≠ (TX6 b).2.1 := by decide +kernel
theorem tyX6_ok : ∀ k, k < 3 → parseFieldDescriptor (TX6 k).2.2.1 = some (tyX6 k) := by decide +kernel
abbrev cX6_init : ByteArray := prog_8_method_1_code
def yX6_init : MethodName := ⟨RX6, "<init>", "()V"⟩
def RX7 : String := "LockedToAnothers"
def TX7 : u_T := fun k => match k with
  | 0 => ("LockedToAnothers", "rail", "LLockedToAnothers$Rail;", true)
  | 1 => ("LockedToAnothers", "kept", "LLockedToAnothers$Rail;", true)
  | 2 => ("LockedToAnothers", "book", "LLockedToAnothers$LawBook;", true)
  | 3 => ("LockedToAnothers", "orders", "LLockedToAnothers$Orders;", true)
  | 4 => ("LockedToAnothers", "today", "LLockedToAnothers$Day;", true)
  | 5 => ("LockedToAnothers", "sheets", "[LLockedToAnothers$Sheet;", true)
  | 6 => ("LockedToAnothers", "coming", "[I", true)
  | 7 => ("LockedToAnothers", "prices", "[I", true)
  | 8 => ("LockedToAnothers", "imaged", "Z", false)
  | _ => ("LockedToAnothers", "keptLaw", "I", false)
def tyX7 : Nat → FieldType := fun k => match k with
  | 0 => .object "LockedToAnothers$Rail"
  | 1 => .object "LockedToAnothers$Rail"
  | 2 => .object "LockedToAnothers$LawBook"
  | 3 => .object "LockedToAnothers$Orders"
  | 4 => .object "LockedToAnothers$Day"
  | 5 => .array (.object "LockedToAnothers$Sheet")
  | 6 => .array .int
  | 7 => .array .int
  | 8 => .boolean
  | _ => .int
abbrev wsX70 : List Cond := u_ws RX7 TX7 10
theorem nmX7 : ∀ a, a < 10 → ∀ b, b < 10 → a ≠ b → (TX7 a).2.1 ≠ (TX7 b).2.1 := by decide +kernel
theorem tyX7_ok : ∀ k, k < 10 → parseFieldDescriptor (TX7 k).2.2.1 = some (tyX7 k) := by decide +kernel
abbrev cX7_init : ByteArray := prog_1_method_1_code
def yX7_init : MethodName := ⟨RX7, "<init>", "()V"⟩
abbrev cX7_count : ByteArray := prog_1_method_2_code
def yX7_count : MethodName := ⟨RX7, "count", "(I)I"⟩
abbrev cX7_feed : ByteArray := prog_1_method_3_code
def yX7_feed : MethodName := ⟨RX7, "feed", "(IIIIII)I"⟩
abbrev cX7_text : ByteArray := prog_1_method_4_code
def yX7_text : MethodName := ⟨RX7, "text", "()I"⟩
abbrev cX7_force : ByteArray := prog_1_method_5_code
def yX7_force : MethodName := ⟨RX7, "force", "(I)I"⟩
abbrev cX7_thing : ByteArray := prog_1_method_7_code
def yX7_thing : MethodName := ⟨RX7, "thing", "(III)I"⟩
abbrev cX7_told : ByteArray := prog_1_method_9_code
def yX7_told : MethodName := ⟨RX7, "told", "(II)I"⟩
abbrev cX7_lock : ByteArray := prog_1_method_10_code
def yX7_lock : MethodName := ⟨RX7, "lock", "(III)I"⟩
abbrev cX7_lockTold : ByteArray := prog_1_method_12_code
def yX7_lockTold : MethodName := ⟨RX7, "lockTold", "(II)I"⟩
abbrev cX7_holds : ByteArray := prog_1_method_13_code
def yX7_holds : MethodName := ⟨RX7, "holds", "(I)I"⟩
abbrev cX7_free : ByteArray := prog_1_method_14_code
def yX7_free : MethodName := ⟨RX7, "free", "()I"⟩
abbrev cX7_go : ByteArray := prog_1_method_15_code
def yX7_go : MethodName := ⟨RX7, "go", "(I)I"⟩
abbrev cX7_saw : ByteArray := prog_1_method_16_code
def yX7_saw : MethodName := ⟨RX7, "saw", "(I)I"⟩
abbrev cX7_waits : ByteArray := prog_1_method_17_code
def yX7_waits : MethodName := ⟨RX7, "waits", "(I)I"⟩
abbrev cX7_never : ByteArray := prog_1_method_18_code
def yX7_never : MethodName := ⟨RX7, "never", "()I"⟩
abbrev cX7_first : ByteArray := prog_1_method_19_code
def yX7_first : MethodName := ⟨RX7, "first", "(II)I"⟩
abbrev cX7_sawFor : ByteArray := prog_1_method_27_code
def yX7_sawFor : MethodName := ⟨RX7, "sawFor", "(II)I"⟩
abbrev cX7_has : ByteArray := prog_1_method_51_code
def yX7_has : MethodName := ⟨RX7, "has", "(II)Z"⟩
abbrev cX7_isByte : ByteArray := prog_1_method_53_code
def yX7_isByte : MethodName := ⟨RX7, "isByte", "(I)Z"⟩
abbrev cX7_isEither : ByteArray := prog_1_method_54_code
def yX7_isEither : MethodName := ⟨RX7, "isEither", "(I)Z"⟩
abbrev cX7_isHour : ByteArray := prog_1_method_55_code
def yX7_isHour : MethodName := ⟨RX7, "isHour", "(I)Z"⟩
abbrev cX7_isKind : ByteArray := prog_1_method_56_code
def yX7_isKind : MethodName := ⟨RX7, "isKind", "(I)Z"⟩
abbrev cX7_isSort : ByteArray := prog_1_method_57_code
def yX7_isSort : MethodName := ⟨RX7, "isSort", "(I)Z"⟩
abbrev cX7_cheapestSaws : ByteArray := prog_1_method_61_code
def yX7_cheapestSaws : MethodName := ⟨RX7, "cheapestSaws", "(II)I"⟩
abbrev cX7_priceOf : ByteArray := prog_1_method_62_code
def yX7_priceOf : MethodName := ⟨RX7, "priceOf", "(I)I"⟩
def RX8 : String := "LockedToAnothersModel"
def TX8 : u_T := fun k => match k with
  | _ => ("", "", "", false)
def tyX8 : Nat → FieldType := fun k => match k with
  | _ => .int
abbrev wsX80 : List Cond := u_ws RX8 TX8 0
theorem nmX8 : ∀ a, a < 0 → ∀ b, b < 0 → a ≠ b → (TX8 a).2.1 ≠ (TX8 b).2.1 := by decide +kernel
theorem tyX8_ok : ∀ k, k < 0 → parseFieldDescriptor (TX8 k).2.2.1 = some (tyX8 k) := by decide +kernel
def RJ5 : String := "java/lang/AbstractStringBuilder"
abbrev cJ5_init_d00df : ByteArray := prog_11_method_2_code
def yJ5_init_d00df : MethodName := ⟨RJ5, "<init>", "(I)V"⟩
abbrev cJ5_length_8abf5 : ByteArray := prog_11_method_6_code
def yJ5_length_8abf5 : MethodName := ⟨RJ5, "length", "()I"⟩
abbrev cJ5_ensureCapacityInternal_d00df : ByteArray := prog_11_method_9_code
def yJ5_ensureCapacityInternal_d00df : MethodName := ⟨RJ5, "ensureCapacityInternal", "(I)V"⟩
abbrev cJ5_newCapacity_0f7a4 : ByteArray := prog_11_method_10_code
def yJ5_newCapacity_0f7a4 : MethodName := ⟨RJ5, "newCapacity", "(I)I"⟩
abbrev cJ5_append_cf1ce : ByteArray := prog_11_method_22_code
def yJ5_append_cf1ce : MethodName := ⟨RJ5, "append", "(Ljava/lang/String;)Ljava/lang/AbstractStringBuilder;"⟩
abbrev cJ5_append_c97b9 : ByteArray := prog_11_method_32_code
def yJ5_append_c97b9 : MethodName := ⟨RJ5, "append", "(I)Ljava/lang/AbstractStringBuilder;"⟩
abbrev cJ5_getValue_6d5f1 : ByteArray := prog_11_method_64_code
def yJ5_getValue_6d5f1 : MethodName := ⟨RJ5, "getValue", "()[B"⟩
abbrev cJ5_isLatin1_aae02 : ByteArray := prog_11_method_68_code
def yJ5_isLatin1_aae02 : MethodName := ⟨RJ5, "isLatin1", "()Z"⟩
abbrev cJ5_inflateIfNeededFor_a7421 : ByteArray := prog_11_method_71_code
def yJ5_inflateIfNeededFor_a7421 : MethodName := ⟨RJ5, "inflateIfNeededFor", "(Ljava/lang/String;)V"⟩
abbrev cJ5_putStringAt_47b60 : ByteArray := prog_11_method_73_code
def yJ5_putStringAt_47b60 : MethodName := ⟨RJ5, "putStringAt", "(ILjava/lang/String;)V"⟩
def RJ11 : String := "java/lang/Character"
def RJ6 : String := "java/lang/Integer"
abbrev cJ6_getChars_ba4f3 : ByteArray := prog_14_method_12_code
def yJ6_getChars_ba4f3 : MethodName := ⟨RJ6, "getChars", "(II[B)I"⟩
abbrev cJ6_stringSize_0f7a4 : ByteArray := prog_14_method_13_code
def yJ6_stringSize_0f7a4 : MethodName := ⟨RJ6, "stringSize", "(I)I"⟩
abbrev cJ6_bitCount_0f7a4 : ByteArray := prog_14_method_49_code
def yJ6_bitCount_0f7a4 : MethodName := ⟨RJ6, "bitCount", "(I)I"⟩
def RJ13 : String := "java/lang/Long"
abbrev cJ13_bitCount_95d88 : ByteArray := prog_15_method_50_code
def yJ13_bitCount_95d88 : MethodName := ⟨RJ13, "bitCount", "(J)I"⟩
def RJ9 : String := "java/lang/Math"
def RJ0 : String := "java/lang/String"
def TJ0 : u_T := fun k => match k with
  | 0 => ("java/lang/String", "value", "[B", true)
  | 1 => ("java/lang/String", "coder", "B", true)
  | 2 => ("java/lang/String", "hash", "I", false)
  | _ => ("java/lang/String", "hashIsZero", "Z", false)
def tyJ0 : Nat → FieldType := fun k => match k with
  | 0 => .array .byte
  | 1 => .byte
  | 2 => .int
  | _ => .boolean
abbrev wsJ00 : List Cond := u_ws RJ0 TJ0 4
theorem nmJ0 : ∀ a, a < 4 → ∀ b, b < 4 → a ≠ b → (TJ0 a).2.1 ≠ (TJ0 b).2.1 := by decide +kernel
theorem tyJ0_ok : ∀ k, k < 4 → parseFieldDescriptor (TJ0 k).2.2.1 = some (tyJ0 k) := by decide +kernel
abbrev cJ0_init_81219 : ByteArray := prog_17_method_53_code
def yJ0_init_81219 : MethodName := ⟨RJ0, "<init>", "(Ljava/lang/StringBuilder;)V"⟩
abbrev cJ0_length_8abf5 : ByteArray := prog_17_method_54_code
def yJ0_length_8abf5 : MethodName := ⟨RJ0, "length", "()I"⟩
abbrev cJ0_charAt_5068e : ByteArray := prog_17_method_56_code
def yJ0_charAt_5068e : MethodName := ⟨RJ0, "charAt", "(I)C"⟩
abbrev cJ0_indexOf_0f7a4 : ByteArray := prog_17_method_79_code
def yJ0_indexOf_0f7a4 : MethodName := ⟨RJ0, "indexOf", "(I)I"⟩
abbrev cJ0_indexOf_7cf53 : ByteArray := prog_17_method_80_code
def yJ0_indexOf_7cf53 : MethodName := ⟨RJ0, "indexOf", "(II)I"⟩
abbrev cJ0_getBytes_840e7 : ByteArray := prog_17_method_147_code
def yJ0_getBytes_840e7 : MethodName := ⟨RJ0, "getBytes", "([BIB)V"⟩
abbrev cJ0_init_db425 : ByteArray := prog_17_method_150_code
def yJ0_init_db425 : MethodName := ⟨RJ0, "<init>", "(Ljava/lang/AbstractStringBuilder;Ljava/lang/Void;)V"⟩
abbrev cJ0_coder_7d493 : ByteArray := prog_17_method_152_code
def yJ0_coder_7d493 : MethodName := ⟨RJ0, "coder", "()B"⟩
abbrev cJ0_isLatin1_aae02 : ByteArray := prog_17_method_154_code
def yJ0_isLatin1_aae02 : MethodName := ⟨RJ0, "isLatin1", "()Z"⟩
def RJ4 : String := "java/lang/StringBuilder"
def TJ4 : u_T := fun k => match k with
  | 0 => ("java/lang/AbstractStringBuilder", "value", "[B", false)
  | 1 => ("java/lang/AbstractStringBuilder", "coder", "B", false)
  | 2 => ("java/lang/AbstractStringBuilder", "maybeLatin1", "Z", false)
  | _ => ("java/lang/AbstractStringBuilder", "count", "I", false)
def tyJ4 : Nat → FieldType := fun k => match k with
  | 0 => .array .byte
  | 1 => .byte
  | 2 => .boolean
  | _ => .int
abbrev wsJ40 : List Cond := u_ws RJ4 TJ4 4
theorem nmJ4 : ∀ a, a < 4 → ∀ b, b < 4 → a ≠ b → (TJ4 a).2.1 ≠ (TJ4 b).2.1 := by decide +kernel
theorem tyJ4_ok : ∀ k, k < 4 → parseFieldDescriptor (TJ4 k).2.2.1 = some (tyJ4 k) := by decide +kernel
abbrev cJ4_init_da8c8 : ByteArray := prog_18_method_1_code
def yJ4_init_da8c8 : MethodName := ⟨RJ4, "<init>", "()V"⟩
abbrev cJ4_append_15ec4 : ByteArray := prog_18_method_7_code
def yJ4_append_15ec4 : MethodName := ⟨RJ4, "append", "(Ljava/lang/String;)Ljava/lang/StringBuilder;"⟩
abbrev cJ4_append_bf812 : ByteArray := prog_18_method_15_code
def yJ4_append_bf812 : MethodName := ⟨RJ4, "append", "(I)Ljava/lang/StringBuilder;"⟩
abbrev cJ4_toString_0e30d : ByteArray := prog_18_method_42_code
def yJ4_toString_0e30d : MethodName := ⟨RJ4, "toString", "()Ljava/lang/String;"⟩
abbrev cJ4_length_8abf5 : ByteArray := prog_18_method_93_code
def yJ4_length_8abf5 : MethodName := ⟨RJ4, "length", "()I"⟩
def RJ1 : String := "java/lang/StringLatin1"
abbrev cJ1_charAt_3b067 : ByteArray := prog_19_method_2_code
def yJ1_charAt_3b067 : MethodName := ⟨RJ1, "charAt", "([BI)C"⟩
abbrev cJ1_canEncode_9a6ad : ByteArray := prog_19_method_4_code
def yJ1_canEncode_9a6ad : MethodName := ⟨RJ1, "canEncode", "(I)Z"⟩
abbrev cJ1_indexOf_4cfef : ByteArray := prog_19_method_22_code
def yJ1_indexOf_4cfef : MethodName := ⟨RJ1, "indexOf", "([BIII)I"⟩
abbrev cJ1_indexOfChar_4cfef : ByteArray := prog_19_method_23_code
def yJ1_indexOfChar_4cfef : MethodName := ⟨RJ1, "indexOfChar", "([BIII)I"⟩
def RJ2 : String := "java/lang/StringUTF16"
def RJ10 : String := "java/lang/System"
def RJ7 : String := "java/util/Arrays"
abbrev cJ7_copyOf_9075b : ByteArray := prog_22_method_121_code
def yJ7_copyOf_9075b : MethodName := ⟨RJ7, "copyOf", "([BI)[B"⟩
abbrev cJ7_checkLength_df160 : ByteArray := prog_22_method_131_code
def yJ7_checkLength_df160 : MethodName := ⟨RJ7, "checkLength", "(II)V"⟩
abbrev cJ7_copyOfRange_39247 : ByteArray := prog_22_method_132_code
def yJ7_copyOfRange_39247 : MethodName := ⟨RJ7, "copyOfRange", "([BII)[B"⟩
abbrev cJ7_copyOfRangeByte_39247 : ByteArray := prog_22_method_133_code
def yJ7_copyOfRangeByte_39247 : MethodName := ⟨RJ7, "copyOfRangeByte", "([BII)[B"⟩
def RJ8 : String := "jdk/internal/util/ArraysSupport"
abbrev cJ8_newLength_cabcc : ByteArray := prog_23_method_27_code
def yJ8_newLength_cabcc : MethodName := ⟨RJ8, "newLength", "(III)I"⟩
def RJ3 : String := "jdk/internal/util/Preconditions"
def RL : String := "LockedToAnothersLaw"
abbrev cL_at : ByteArray := method_2_code
def yL_at : MethodName := ⟨RL, "at", "([II)I"⟩
abbrev cL_text : ByteArray := method_3_code
def yL_text : MethodName := ⟨RL, "text", "(LLockedToAnothers;Ljava/lang/String;)V"⟩
abbrev cL_build : ByteArray := method_4_code
def yL_build : MethodName := ⟨RL, "build", "([I)LLockedToAnothers;"⟩
abbrev cL_plain : ByteArray := method_5_code
def yL_plain : MethodName := ⟨RL, "plain", "([I)Z"⟩
abbrev cL_things : ByteArray := method_6_code
def yL_things : MethodName := ⟨RL, "things", "([I)I"⟩
abbrev cL_locks : ByteArray := method_7_code
def yL_locks : MethodName := ⟨RL, "locks", "([I)I"⟩
abbrev cL_kind : ByteArray := method_8_code
def yL_kind : MethodName := ⟨RL, "kind", "([II)I"⟩
abbrev cL_more : ByteArray := method_9_code
def yL_more : MethodName := ⟨RL, "more", "([II)I"⟩
abbrev cL_come : ByteArray := method_10_code
def yL_come : MethodName := ⟨RL, "come", "([II)I"⟩
abbrev cL_owner : ByteArray := method_11_code
def yL_owner : MethodName := ⟨RL, "owner", "([II)I"⟩
abbrev cL_sort : ByteArray := method_12_code
def yL_sort : MethodName := ⟨RL, "sort", "([II)I"⟩
abbrev cL_through : ByteArray := method_13_code
def yL_through : MethodName := ⟨RL, "through", "([II)I"⟩
abbrev cL_sawn : ByteArray := method_14_code
def yL_sawn : MethodName := ⟨RL, "sawn", "([II)Z"⟩
abbrev cL_held : ByteArray := method_15_code
def yL_held : MethodName := ⟨RL, "held", "(III)I"⟩
abbrev cL_saws : ByteArray := method_17_code
def yL_saws : MethodName := ⟨RL, "saws", "([III)I"⟩
abbrev cL_start : ByteArray := method_19_code
def yL_start : MethodName := ⟨RL, "start", "([I[J)V"⟩
abbrev cL_fix : ByteArray := method_20_code
def yL_fix : MethodName := ⟨RL, "fix", "([I[JIII)Z"⟩
abbrev cL_holds : ByteArray := method_21_code
def yL_holds : MethodName := ⟨RL, "holds", "([I[JI)I"⟩
abbrev cL_can : ByteArray := method_22_code
def yL_can : MethodName := ⟨RL, "can", "([I[JI)Z"⟩
abbrev cL_last : ByteArray := method_23_code
def yL_last : MethodName := ⟨RL, "last", "([I[J)I"⟩
abbrev cL_law : ByteArray := code
def yL_law : MethodName := ⟨RL, "law", "([I)Z"⟩
abbrev vwCl : List vw_C := [(RX0, TX0, 2), (RX2, TX2, 8), (RX3, TX3, 4), (RX4, TX4, 12), (RX5, TX5, 9), (RX6, TX6, 3), (RX7, TX7, 10), (RJ4, TJ4, 4), (RJ0, TJ0, 4)]
theorem am_mem {ws big : List Jvm.Cond} (ps : List Nat) (hp : ws = ps.filterMap (fun i => big[i]?)) : ∀ w ∈ ws, w ∈ big := by
  intro w hw
  rw [hp] at hw
  obtain ⟨i, -, hi⟩ := List.mem_filterMap.mp hw
  exact List.mem_of_getElem? hi
/-- AbstractStringBuilder's private methods, on a StringBuilder -/
def am_pj : List MethodName := [⟨"java/lang/AbstractStringBuilder", "ensureCapacityInternal", "(I)V"⟩, ⟨"java/lang/AbstractStringBuilder", "newCapacity", "(I)I"⟩, ⟨"java/lang/AbstractStringBuilder", "putStringAt", "(ILjava/lang/String;)V"⟩, ⟨"java/lang/AbstractStringBuilder", "inflateIfNeededFor", "(Ljava/lang/String;)V"⟩]
def am_selj : List Jvm.Cond := am_pj.map fun y => Jvm.Cond.selects "java/lang/StringBuilder" y y
/-- all the words: what a StringBuilder's own calls select, and the tables' -/
def wt_tbl : List Jvm.Cond := am_selj ++ lw_tbl
theorem wt_sel {x y : MethodName} {s : State} {args : Array Value} {C : String} (hxy : x.cls = y.cls) (hy : y.cls ≠ "java/lang/invoke/MethodHandle" ∧ y.cls ≠ "java/lang/invoke/VarHandle") (h0 : (Jvm.Cond.selects C x x).before args s = true) (hpriv : (Jvm.Cond.privateMethod y).before args s = true) (hinst : (Jvm.Cond.instanceMethod y).before args s = true) : (Jvm.Cond.selects C y y).before args s = true := by
  obtain ⟨mk, methM, hnamed, hmethM, -, -⟩ := Cond.instanceMethod_spec hinst
  have hfound : s.methodFound? y.cls y.name y.desc = some mk := State.methodFound?_of_named hnamed hy
  simp only [Cond.before, Cond.holds, Cond.value] at h0
  split at h0
  · rename_i c r m h1 h2 h3
    have hcls : m.cls = mk.cls := Option.some.inj ((findClass_of_methodNamed h3).symm.trans ((congrArg s.vm.findClass hxy).trans (findClass_of_methodNamed hnamed)))
    have hsel : selectMethod {} s.vm c mk = .method mk := selectMethod_private hmethM (Cond.privateMethod_at hpriv mk methM hnamed hmethM)
    simp only [Cond.before, Cond.holds, Cond.value, h1, hfound, hnamed, hsel]
    split at h0
    · simp only [beq_iff_eq, Option.some.injEq, Bool.and_eq_true, decide_eq_true_eq] at h0 ⊢
      exact ⟨trivial, by rw [← hcls]; exact h0.2⟩
    · simp at h0
  · simp at h0
theorem inX0 : ∀ w ∈ wsX00, w ∈ wt_tbl := am_mem [375, 377] (by decide +kernel)
theorem inX2 : ∀ w ∈ wsX20, w ∈ wt_tbl := am_mem [330, 332, 334, 336, 338, 340, 342, 344] (by decide +kernel)
theorem inX3 : ∀ w ∈ wsX30, w ∈ wt_tbl := am_mem [358, 360, 362, 364] (by decide +kernel)
theorem inX4 : ∀ w ∈ wsX40, w ∈ wt_tbl := am_mem [86, 88, 90, 92, 94, 96, 98, 100, 102, 104, 106, 108] (by decide +kernel)
theorem inX5 : ∀ w ∈ wsX50, w ∈ wt_tbl := am_mem [135, 137, 139, 141, 143, 145, 147, 149, 151] (by decide +kernel)
theorem inX6 : ∀ w ∈ wsX60, w ∈ wt_tbl := am_mem [390, 392, 394] (by decide +kernel)
theorem inX7 : ∀ w ∈ wsX70, w ∈ wt_tbl := am_mem [407, 409, 411, 413, 415, 417, 419, 421, 423, 425] (by decide +kernel)
theorem inJ4 : ∀ w ∈ wsJ40, w ∈ wt_tbl := am_mem [682, 684, 686, 688] (by decide +kernel)
theorem inJ0 : ∀ w ∈ wsJ00, w ∈ wt_tbl := am_mem [856, 858, 860, 862] (by decide +kernel)
