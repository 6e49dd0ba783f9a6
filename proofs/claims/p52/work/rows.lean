section
-- ===== PART A: goes FIRST, ahead of the names: the tables' words, and 'selects' of the private methods out of them =====
/-- a private method of a class that the tables say can be made, by its rows of tables_1 -/
def lw_okq (q : MethodName × Nat) : Prop := (q.1.cls ≠ "java/lang/invoke/MethodHandle" ∧ q.1.cls ≠ "java/lang/invoke/VarHandle") ∧ Cond.instantiable q.1.cls q.2 ∈ tables_1 ∧ Cond.privateMethod q.1 ∈ tables_1 ∧ Cond.instanceMethod q.1 ∈ tables_1
theorem lw_p0 : lw_okq (⟨"LockedToAnothers$Reader", "advance", "()V"⟩, 9) := ⟨⟨by decide +kernel, by decide +kernel⟩, List.mem_of_getElem? (i := 100) (by decide +kernel), List.mem_of_getElem? (i := 195) (by decide +kernel), List.mem_of_getElem? (i := 196) (by decide +kernel)⟩
theorem lw_p1 : lw_okq (⟨"LockedToAnothers$Reader", "scanWord", "()I"⟩, 9) := ⟨⟨by decide +kernel, by decide +kernel⟩, List.mem_of_getElem? (i := 100) (by decide +kernel), List.mem_of_getElem? (i := 202) (by decide +kernel), List.mem_of_getElem? (i := 203) (by decide +kernel)⟩
theorem lw_p2 : lw_okq (⟨"LockedToAnothers$Reader", "wordNumber", "()I"⟩, 9) := ⟨⟨by decide +kernel, by decide +kernel⟩, List.mem_of_getElem? (i := 100) (by decide +kernel), List.mem_of_getElem? (i := 206) (by decide +kernel), List.mem_of_getElem? (i := 207) (by decide +kernel)⟩
theorem lw_p3 : lw_okq (⟨"LockedToAnothers$Reader", "scanNumber", "()I"⟩, 9) := ⟨⟨by decide +kernel, by decide +kernel⟩, List.mem_of_getElem? (i := 100) (by decide +kernel), List.mem_of_getElem? (i := 213) (by decide +kernel), List.mem_of_getElem? (i := 214) (by decide +kernel)⟩
theorem lw_p4 : lw_okq (⟨"LockedToAnothers$Reader", "demand", "(I)V"⟩, 9) := ⟨⟨by decide +kernel, by decide +kernel⟩, List.mem_of_getElem? (i := 100) (by decide +kernel), List.mem_of_getElem? (i := 277) (by decide +kernel), List.mem_of_getElem? (i := 278) (by decide +kernel)⟩
theorem lw_p5 : lw_okq (⟨"LockedToAnothers$Reader", "refuse", "()V"⟩, 9) := ⟨⟨by decide +kernel, by decide +kernel⟩, List.mem_of_getElem? (i := 100) (by decide +kernel), List.mem_of_getElem? (i := 281) (by decide +kernel), List.mem_of_getElem? (i := 282) (by decide +kernel)⟩
theorem lw_p6 : lw_okq (⟨"LockedToAnothers$Reader", "expression", "(II)V"⟩, 9) := ⟨⟨by decide +kernel, by decide +kernel⟩, List.mem_of_getElem? (i := 100) (by decide +kernel), List.mem_of_getElem? (i := 285) (by decide +kernel), List.mem_of_getElem? (i := 286) (by decide +kernel)⟩
theorem lw_p7 : lw_okq (⟨"LockedToAnothers$Reader", "one", "(I)V"⟩, 9) := ⟨⟨by decide +kernel, by decide +kernel⟩, List.mem_of_getElem? (i := 100) (by decide +kernel), List.mem_of_getElem? (i := 289) (by decide +kernel), List.mem_of_getElem? (i := 290) (by decide +kernel)⟩
theorem lw_p8 : lw_okq (⟨"LockedToAnothers$Reader", "write", "(I)V"⟩, 9) := ⟨⟨by decide +kernel, by decide +kernel⟩, List.mem_of_getElem? (i := 100) (by decide +kernel), List.mem_of_getElem? (i := 293) (by decide +kernel), List.mem_of_getElem? (i := 294) (by decide +kernel)⟩
theorem lw_p9 : lw_okq (⟨"LockedToAnothers$Reader", "joiner", "(I)I"⟩, 9) := ⟨⟨by decide +kernel, by decide +kernel⟩, List.mem_of_getElem? (i := 100) (by decide +kernel), List.mem_of_getElem? (i := 297) (by decide +kernel), List.mem_of_getElem? (i := 298) (by decide +kernel)⟩
theorem lw_p10 : lw_okq (⟨"LockedToAnothers$LawBook", "worth", "(II)I"⟩, 8) := ⟨⟨by decide +kernel, by decide +kernel⟩, List.mem_of_getElem? (i := 94) (by decide +kernel), List.mem_of_getElem? (i := 490) (by decide +kernel), List.mem_of_getElem? (i := 491) (by decide +kernel)⟩
theorem lw_p11 : lw_okq (⟨"LockedToAnothers$Orders", "countAll", "()V"⟩, 4) := ⟨⟨by decide +kernel, by decide +kernel⟩, List.mem_of_getElem? (i := 330) (by decide +kernel), List.mem_of_getElem? (i := 532) (by decide +kernel), List.mem_of_getElem? (i := 533) (by decide +kernel)⟩
theorem lw_p12 : lw_okq (⟨"LockedToAnothers", "cheapestSaws", "(II)I"⟩, 10) := ⟨⟨by decide +kernel, by decide +kernel⟩, List.mem_of_getElem? (i := 23) (by decide +kernel), List.mem_of_getElem? (i := 549) (by decide +kernel), List.mem_of_getElem? (i := 550) (by decide +kernel)⟩
theorem lw_p13 : lw_okq (⟨"LockedToAnothers", "priceOf", "(I)I"⟩, 10) := ⟨⟨by decide +kernel, by decide +kernel⟩, List.mem_of_getElem? (i := 23) (by decide +kernel), List.mem_of_getElem? (i := 553) (by decide +kernel), List.mem_of_getElem? (i := 554) (by decide +kernel)⟩
theorem lw_p14 : lw_okq (⟨"LockedToAnothers$Rail", "regrip", "(I)V"⟩, 12) := ⟨⟨by decide +kernel, by decide +kernel⟩, List.mem_of_getElem? (i := 31) (by decide +kernel), List.mem_of_getElem? (i := 599) (by decide +kernel), List.mem_of_getElem? (i := 600) (by decide +kernel)⟩
def lw_privs_1 : List (MethodName × Nat) := [(⟨"LockedToAnothers$Reader", "advance", "()V"⟩, 9), (⟨"LockedToAnothers$Reader", "scanWord", "()I"⟩, 9), (⟨"LockedToAnothers$Reader", "wordNumber", "()I"⟩, 9), (⟨"LockedToAnothers$Reader", "scanNumber", "()I"⟩, 9), (⟨"LockedToAnothers$Reader", "demand", "(I)V"⟩, 9), (⟨"LockedToAnothers$Reader", "refuse", "()V"⟩, 9), (⟨"LockedToAnothers$Reader", "expression", "(II)V"⟩, 9), (⟨"LockedToAnothers$Reader", "one", "(I)V"⟩, 9), (⟨"LockedToAnothers$Reader", "write", "(I)V"⟩, 9), (⟨"LockedToAnothers$Reader", "joiner", "(I)I"⟩, 9), (⟨"LockedToAnothers$LawBook", "worth", "(II)I"⟩, 8), (⟨"LockedToAnothers$Orders", "countAll", "()V"⟩, 4), (⟨"LockedToAnothers", "cheapestSaws", "(II)I"⟩, 10), (⟨"LockedToAnothers", "priceOf", "(I)I"⟩, 10), (⟨"LockedToAnothers$Rail", "regrip", "(I)V"⟩, 12)]
theorem lw_r1 : ∀ q ∈ lw_privs_1, lw_okq q := List.forall_mem_cons.mpr ⟨lw_p0, List.forall_mem_cons.mpr ⟨lw_p1, List.forall_mem_cons.mpr ⟨lw_p2, List.forall_mem_cons.mpr ⟨lw_p3, List.forall_mem_cons.mpr ⟨lw_p4, List.forall_mem_cons.mpr ⟨lw_p5, List.forall_mem_cons.mpr ⟨lw_p6, List.forall_mem_cons.mpr ⟨lw_p7, List.forall_mem_cons.mpr ⟨lw_p8, List.forall_mem_cons.mpr ⟨lw_p9, List.forall_mem_cons.mpr ⟨lw_p10, List.forall_mem_cons.mpr ⟨lw_p11, List.forall_mem_cons.mpr ⟨lw_p12, List.forall_mem_cons.mpr ⟨lw_p13, List.forall_mem_cons.mpr ⟨lw_p14, fun _ h => absurd h List.not_mem_nil⟩⟩⟩⟩⟩⟩⟩⟩⟩⟩⟩⟩⟩⟩⟩
def lw_privs : List (MethodName × Nat) := lw_privs_1
def lw_tbl : List Cond := k2_sels lw_privs ++ tables_1
theorem lw_privs_ok : ∀ q ∈ lw_privs, lw_okq q := lw_r1
-- ===== names, out of the printed NAMES text =====
def RX0 : String := "LockedToAnothers$Day"
def TX0 : u_T := fun k => match k with
  | 0 => ("LockedToAnothers$Day", "rail", "LLockedToAnothers$Rail;", true)
  | _ => ("LockedToAnothers$Day", "goesAt", "[I", true)
def tyX0 : Nat → FieldType := fun k => match k with
  | 0 => .object "LockedToAnothers$Rail"
  | _ => .array .int
abbrev wsX00 : List Cond := u_ws RX0 TX0 2
theorem nmX0 : ∀ a, a < 2 → ∀ b, b < 2 → a ≠ b → (TX0 a).2.1 ≠ (TX0 b).2.1 := by decide +kernel
theorem tyX0_ok : ∀ k, k < 2 → parseFieldDescriptor (TX0 k).2.2.1 = some (tyX0 k) := by decide +kernel
abbrev cX0_init : ByteArray := prog_2_method_1_code
def yX0_init : MethodName := ⟨RX0, "<init>", "(LLockedToAnothers$Rail;)V"⟩
def RX1 : String := "LockedToAnothers$Kinds"
def TX1 : u_T := fun k => match k with
  | _ => ("", "", "", false)
def tyX1 : Nat → FieldType := fun k => match k with
  | _ => .int
abbrev wsX10 : List Cond := u_ws RX1 TX1 0
theorem nmX1 : ∀ a, a < 0 → ∀ b, b < 0 → a ≠ b → (TX1 a).2.1 ≠ (TX1 b).2.1 := by decide +kernel
theorem tyX1_ok : ∀ k, k < 0 → parseFieldDescriptor (TX1 k).2.2.1 = some (tyX1 k) := by decide +kernel
abbrev cX1_isHeld : ByteArray := prog_3_method_2_code
def yX1_isHeld : MethodName := ⟨RX1, "isHeld", "(III)Z"⟩
abbrev cX1_goesIn : ByteArray := prog_3_method_4_code
def yX1_goesIn : MethodName := ⟨RX1, "goesIn", "(III)Z"⟩
abbrev cX1_everGoes : ByteArray := prog_3_method_5_code
def yX1_everGoes : MethodName := ⟨RX1, "everGoes", "(II)Z"⟩
def RX2 : String := "LockedToAnothers$LawBook"
def TX2 : u_T := fun k => match k with
  | 0 => ("LockedToAnothers$LawBook", "tape", "LLockedToAnothers$Reader;", true)
  | 1 => ("LockedToAnothers$LawBook", "texts", "I", false)
  | 2 => ("LockedToAnothers$LawBook", "inForce", "I", false)
  | 3 => ("LockedToAnothers$LawBook", "rail", "LLockedToAnothers$Rail;", true)
  | 4 => ("LockedToAnothers$LawBook", "steps", "[[I", true)
  | 5 => ("LockedToAnothers$LawBook", "ends", "[[I", true)
  | 6 => ("LockedToAnothers$LawBook", "names", "[I", true)
  | _ => ("LockedToAnothers$LawBook", "stack", "[I", true)
def tyX2 : Nat → FieldType := fun k => match k with
  | 0 => .object "LockedToAnothers$Reader"
  | 1 => .int
  | 2 => .int
  | 3 => .object "LockedToAnothers$Rail"
  | 4 => .array (.array .int)
  | 5 => .array (.array .int)
  | 6 => .array .int
  | _ => .array .int
abbrev wsX20 : List Cond := u_ws RX2 TX2 8
theorem nmX2 : ∀ a, a < 8 → ∀ b, b < 8 → a ≠ b → (TX2 a).2.1 ≠ (TX2 b).2.1 := by decide +kernel
theorem tyX2_ok : ∀ k, k < 8 → parseFieldDescriptor (TX2 k).2.2.1 = some (tyX2 k) := by decide +kernel
abbrev cX2_init : ByteArray := prog_4_method_1_code
def yX2_init : MethodName := ⟨RX2, "<init>", "(LLockedToAnothers$Rail;)V"⟩
abbrev cX2_takeTape : ByteArray := prog_4_method_2_code
def yX2_takeTape : MethodName := ⟨RX2, "takeTape", "()Z"⟩
abbrev cX2_says : ByteArray := prog_4_method_3_code
def yX2_says : MethodName := ⟨RX2, "says", "(IIIII)I"⟩
abbrev cX2_sawing : ByteArray := prog_4_method_4_code
def yX2_sawing : MethodName := ⟨RX2, "sawing", "(II)I"⟩
abbrev cX2_worth : ByteArray := prog_4_method_7_code
def yX2_worth : MethodName := ⟨RX2, "worth", "(II)I"⟩
abbrev cX2_joined : ByteArray := prog_4_method_8_code
def yX2_joined : MethodName := ⟨RX2, "joined", "(III)I"⟩
abbrev cX2_truth : ByteArray := prog_4_method_9_code
def yX2_truth : MethodName := ⟨RX2, "truth", "(Z)I"⟩
def RX3 : String := "LockedToAnothers$Orders"
def TX3 : u_T := fun k => match k with
  | 0 => ("LockedToAnothers$Orders", "rail", "LLockedToAnothers$Rail;", true)
  | 1 => ("LockedToAnothers$Orders", "counts", "[I", true)
  | 2 => ("LockedToAnothers$Orders", "lasts", "[I", true)
  | _ => ("LockedToAnothers$Orders", "awaits", "[I", true)
def tyX3 : Nat → FieldType := fun k => match k with
  | 0 => .object "LockedToAnothers$Rail"
  | 1 => .array .int
  | 2 => .array .int
  | _ => .array .int
abbrev wsX30 : List Cond := u_ws RX3 TX3 4
theorem nmX3 : ∀ a, a < 4 → ∀ b, b < 4 → a ≠ b → (TX3 a).2.1 ≠ (TX3 b).2.1 := by decide +kernel
theorem tyX3_ok : ∀ k, k < 4 → parseFieldDescriptor (TX3 k).2.2.1 = some (tyX3 k) := by decide +kernel
abbrev cX3_init : ByteArray := prog_5_method_1_code
def yX3_init : MethodName := ⟨RX3, "<init>", "(LLockedToAnothers$Rail;)V"⟩
abbrev cX3_countAll : ByteArray := prog_5_method_3_code
def yX3_countAll : MethodName := ⟨RX3, "countAll", "()V"⟩
abbrev cX3_goneAhead : ByteArray := prog_5_method_4_code
def yX3_goneAhead : MethodName := ⟨RX3, "goneAhead", "(I)I"⟩
abbrev cX3_fewestAhead : ByteArray := prog_5_method_5_code
def yX3_fewestAhead : MethodName := ⟨RX3, "fewestAhead", "(I)I"⟩
def RX4 : String := "LockedToAnothers$Rail"
def TX4 : u_T := fun k => match k with
  | 0 => ("LockedToAnothers$Rail", "things", "I", false)
  | 1 => ("LockedToAnothers$Rail", "gone", "I", false)
  | 2 => ("LockedToAnothers$Rail", "locks", "I", false)
  | 3 => ("LockedToAnothers$Rail", "sawn", "I", false)
  | 4 => ("LockedToAnothers$Rail", "ever", "I", false)
  | 5 => ("LockedToAnothers$Rail", "kindOf", "[I", true)
  | 6 => ("LockedToAnothers$Rail", "mores", "[I", true)
  | 7 => ("LockedToAnothers$Rail", "hours", "[I", true)
  | 8 => ("LockedToAnothers$Rail", "owners", "[I", true)
  | 9 => ("LockedToAnothers$Rail", "sorts", "[I", true)
  | 10 => ("LockedToAnothers$Rail", "sets", "[I", true)
  | _ => ("LockedToAnothers$Rail", "grips", "[I", true)
def tyX4 : Nat → FieldType := fun k => match k with
  | 0 => .int
  | 1 => .int
  | 2 => .int
  | 3 => .int
  | 4 => .int
  | 5 => .array .int
  | 6 => .array .int
  | 7 => .array .int
  | 8 => .array .int
  | 9 => .array .int
  | 10 => .array .int
  | _ => .array .int
abbrev wsX40 : List Cond := u_ws RX4 TX4 12
theorem nmX4 : ∀ a, a < 12 → ∀ b, b < 12 → a ≠ b → (TX4 a).2.1 ≠ (TX4 b).2.1 := by decide +kernel
theorem tyX4_ok : ∀ k, k < 12 → parseFieldDescriptor (TX4 k).2.2.1 = some (tyX4 k) := by decide +kernel
abbrev cX4_init : ByteArray := prog_6_method_1_code
def yX4_init : MethodName := ⟨RX4, "<init>", "()V"⟩
abbrev cX4_isThing : ByteArray := prog_6_method_2_code
def yX4_isThing : MethodName := ⟨RX4, "isThing", "(I)Z"⟩
abbrev cX4_isLock : ByteArray := prog_6_method_3_code
def yX4_isLock : MethodName := ⟨RX4, "isLock", "(I)Z"⟩
abbrev cX4_isGone : ByteArray := prog_6_method_4_code
def yX4_isGone : MethodName := ⟨RX4, "isGone", "(I)Z"⟩
abbrev cX4_isShut : ByteArray := prog_6_method_6_code
def yX4_isShut : MethodName := ⟨RX4, "isShut", "(I)Z"⟩
abbrev cX4_isThrough : ByteArray := prog_6_method_7_code
def yX4_isThrough : MethodName := ⟨RX4, "isThrough", "(I)Z"⟩
abbrev cX4_allThings : ByteArray := prog_6_method_8_code
def yX4_allThings : MethodName := ⟨RX4, "allThings", "()I"⟩
abbrev cX4_addThing : ByteArray := prog_6_method_9_code
def yX4_addThing : MethodName := ⟨RX4, "addThing", "(III)V"⟩
abbrev cX4_putKind : ByteArray := prog_6_method_10_code
def yX4_putKind : MethodName := ⟨RX4, "putKind", "(II)V"⟩
abbrev cX4_addLock : ByteArray := prog_6_method_11_code
def yX4_addLock : MethodName := ⟨RX4, "addLock", "(III)V"⟩
abbrev cX4_putSet : ByteArray := prog_6_method_14_code
def yX4_putSet : MethodName := ⟨RX4, "putSet", "(II)V"⟩
abbrev cX4_regrip : ByteArray := prog_6_method_15_code
def yX4_regrip : MethodName := ⟨RX4, "regrip", "(I)V"⟩
abbrev cX4_isFixing : ByteArray := prog_6_method_16_code
def yX4_isFixing : MethodName := ⟨RX4, "isFixing", "(II)Z"⟩
abbrev cX4_holders : ByteArray := prog_6_method_18_code
def yX4_holders : MethodName := ⟨RX4, "holders", "(I)I"⟩
abbrev cX4_awaited : ByteArray := prog_6_method_19_code
def yX4_awaited : MethodName := ⟨RX4, "awaited", "(I)I"⟩
abbrev cX4_canGo : ByteArray := prog_6_method_20_code
def yX4_canGo : MethodName := ⟨RX4, "canGo", "(II)I"⟩
abbrev cX4_goneAtLast : ByteArray := prog_6_method_21_code
def yX4_goneAtLast : MethodName := ⟨RX4, "goneAtLast", "(I)I"⟩
def RX5 : String := "LockedToAnothers$Reader"
def TX5 : u_T := fun k => match k with
  | 0 => ("LockedToAnothers$Reader", "size", "I", false)
  | 1 => ("LockedToAnothers$Reader", "place", "I", false)
  | 2 => ("LockedToAnothers$Reader", "behind", "I", false)
  | 3 => ("LockedToAnothers$Reader", "token", "I", false)
  | 4 => ("LockedToAnothers$Reader", "value", "I", false)
  | 5 => ("LockedToAnothers$Reader", "faulty", "Z", false)
  | 6 => ("LockedToAnothers$Reader", "written", "I", false)
  | 7 => ("LockedToAnothers$Reader", "steps", "[I", false)
  | _ => ("LockedToAnothers$Reader", "bytes", "[I", true)
def tyX5 : Nat → FieldType := fun k => match k with
  | 0 => .int
  | 1 => .int
  | 2 => .int
  | 3 => .int
  | 4 => .int
  | 5 => .boolean
  | 6 => .int
  | 7 => .array .int
  | _ => .array .int
abbrev wsX50 : List Cond := u_ws RX5 TX5 9
theorem nmX5 : ∀ a, a < 9 → ∀ b, b < 9 → a ≠ b → (TX5 a).2.1 ≠ (TX5 b).2.1 := by decide +kernel
theorem tyX5_ok : ∀ k, k < 9 → parseFieldDescriptor (TX5 k).2.2.1 = some (tyX5 k) := by decide +kernel
abbrev cX5_init : ByteArray := prog_7_method_1_code
def yX5_init : MethodName := ⟨RX5, "<init>", "()V"⟩
abbrev cX5_append : ByteArray := prog_7_method_2_code
def yX5_append : MethodName := ⟨RX5, "append", "(I)V"⟩
abbrev cX5_read : ByteArray := prog_7_method_3_code
def yX5_read : MethodName := ⟨RX5, "read", "([I[I)Z"⟩
abbrev cX5_refuse : ByteArray := prog_7_method_4_code
def yX5_refuse : MethodName := ⟨RX5, "refuse", "()V"⟩
abbrev cX5_demand : ByteArray := prog_7_method_5_code
def yX5_demand : MethodName := ⟨RX5, "demand", "(I)V"⟩
abbrev cX5_write : ByteArray := prog_7_method_6_code
def yX5_write : MethodName := ⟨RX5, "write", "(I)V"⟩
abbrev cX5_expression : ByteArray := prog_7_method_7_code
def yX5_expression : MethodName := ⟨RX5, "expression", "(II)V"⟩
abbrev cX5_joiner : ByteArray := prog_7_method_8_code
def yX5_joiner : MethodName := ⟨RX5, "joiner", "(I)I"⟩
abbrev cX5_one : ByteArray := prog_7_method_9_code
def yX5_one : MethodName := ⟨RX5, "one", "(I)V"⟩
abbrev cX5_advance : ByteArray := prog_7_method_10_code
def yX5_advance : MethodName := ⟨RX5, "advance", "()V"⟩
abbrev cX5_scanWord : ByteArray := prog_7_method_11_code
def yX5_scanWord : MethodName := ⟨RX5, "scanWord", "()I"⟩
abbrev cX5_scanNumber : ByteArray := prog_7_method_12_code
def yX5_scanNumber : MethodName := ⟨RX5, "scanNumber", "()I"⟩
abbrev cX5_wordNumber : ByteArray := prog_7_method_13_code
def yX5_wordNumber : MethodName := ⟨RX5, "wordNumber", "()I"⟩
abbrev cX5_isIn : ByteArray := prog_7_method_14_code
def yX5_isIn : MethodName := ⟨RX5, "isIn", "(ICC)Z"⟩
def RX6 : String := "LockedToAnothers$Sheet"
def TX6 : u_T := fun k => match k with
  | 0 => ("LockedToAnothers$Sheet", "sort", "I", false)
  | 1 => ("LockedToAnothers$Sheet", "size", "I", false)
  | _ => ("LockedToAnothers$Sheet", "numbers", "[I", true)
def tyX6 : Nat → FieldType := fun k => match k with
  | 0 => .int
  | 1 => .int
  | _ => .array .int
abbrev wsX60 : List Cond := u_ws RX6 TX6 3
theorem nmX6 : ∀ a, a < 3 → ∀ b, b < 3 → a ≠ b → (TX6 a).2.1 ≠ (TX6 b).2.1 := by decide +kernel
theorem tyX6_ok : ∀ k, k < 3 → parseFieldDescriptor (TX6 k).2.2.1 = some (tyX6 k) := by decide +kernel
abbrev cX6_init : ByteArray := prog_8_method_1_code
def yX6_init : MethodName := ⟨RX6, "<init>", "()V"⟩
def RX7 : String := "LockedToAnothers"
def TX7 : u_T := fun k => match k with
  | 0 => ("LockedToAnothers", "rail", "LLockedToAnothers$Rail;", true)
  | 1 => ("LockedToAnothers", "kept", "LLockedToAnothers$Rail;", true)
  | 2 => ("LockedToAnothers", "book", "LLockedToAnothers$LawBook;", true)
  | 3 => ("LockedToAnothers", "orders", "LLockedToAnothers$Orders;", true)
  | 4 => ("LockedToAnothers", "today", "LLockedToAnothers$Day;", true)
  | 5 => ("LockedToAnothers", "sheets", "[LLockedToAnothers$Sheet;", true)
  | 6 => ("LockedToAnothers", "coming", "[I", true)
  | 7 => ("LockedToAnothers", "prices", "[I", true)
  | 8 => ("LockedToAnothers", "imaged", "Z", false)
  | _ => ("LockedToAnothers", "keptLaw", "I", false)
def tyX7 : Nat → FieldType := fun k => match k with
  | 0 => .object "LockedToAnothers$Rail"
  | 1 => .object "LockedToAnothers$Rail"
  | 2 => .object "LockedToAnothers$LawBook"
  | 3 => .object "LockedToAnothers$Orders"
  | 4 => .object "LockedToAnothers$Day"
  | 5 => .array (.object "LockedToAnothers$Sheet")
  | 6 => .array .int
  | 7 => .array .int
  | 8 => .boolean
  | _ => .int
abbrev wsX70 : List Cond := u_ws RX7 TX7 10
theorem nmX7 : ∀ a, a < 10 → ∀ b, b < 10 → a ≠ b → (TX7 a).2.1 ≠ (TX7 b).2.1 := by decide +kernel
theorem tyX7_ok : ∀ k, k < 10 → parseFieldDescriptor (TX7 k).2.2.1 = some (tyX7 k) := by decide +kernel
abbrev cX7_init : ByteArray := prog_1_method_1_code
def yX7_init : MethodName := ⟨RX7, "<init>", "()V"⟩
abbrev cX7_count : ByteArray := prog_1_method_2_code
def yX7_count : MethodName := ⟨RX7, "count", "(I)I"⟩
abbrev cX7_feed : ByteArray := prog_1_method_3_code
def yX7_feed : MethodName := ⟨RX7, "feed", "(IIIIII)I"⟩
abbrev cX7_text : ByteArray := prog_1_method_4_code
def yX7_text : MethodName := ⟨RX7, "text", "()I"⟩
abbrev cX7_force : ByteArray := prog_1_method_5_code
def yX7_force : MethodName := ⟨RX7, "force", "(I)I"⟩
abbrev cX7_thing : ByteArray := prog_1_method_7_code
def yX7_thing : MethodName := ⟨RX7, "thing", "(III)I"⟩
abbrev cX7_told : ByteArray := prog_1_method_9_code
def yX7_told : MethodName := ⟨RX7, "told", "(II)I"⟩
abbrev cX7_lock : ByteArray := prog_1_method_10_code
def yX7_lock : MethodName := ⟨RX7, "lock", "(III)I"⟩
abbrev cX7_lockTold : ByteArray := prog_1_method_12_code
def yX7_lockTold : MethodName := ⟨RX7, "lockTold", "(II)I"⟩
abbrev cX7_holds : ByteArray := prog_1_method_13_code
def yX7_holds : MethodName := ⟨RX7, "holds", "(I)I"⟩
abbrev cX7_free : ByteArray := prog_1_method_14_code
def yX7_free : MethodName := ⟨RX7, "free", "()I"⟩
abbrev cX7_go : ByteArray := prog_1_method_15_code
def yX7_go : MethodName := ⟨RX7, "go", "(I)I"⟩
abbrev cX7_saw : ByteArray := prog_1_method_16_code
def yX7_saw : MethodName := ⟨RX7, "saw", "(I)I"⟩
abbrev cX7_waits : ByteArray := prog_1_method_17_code
def yX7_waits : MethodName := ⟨RX7, "waits", "(I)I"⟩
abbrev cX7_never : ByteArray := prog_1_method_18_code
def yX7_never : MethodName := ⟨RX7, "never", "()I"⟩
abbrev cX7_first : ByteArray := prog_1_method_19_code
def yX7_first : MethodName := ⟨RX7, "first", "(II)I"⟩
abbrev cX7_sawFor : ByteArray := prog_1_method_27_code
def yX7_sawFor : MethodName := ⟨RX7, "sawFor", "(II)I"⟩
abbrev cX7_has : ByteArray := prog_1_method_51_code
def yX7_has : MethodName := ⟨RX7, "has", "(II)Z"⟩
abbrev cX7_isByte : ByteArray := prog_1_method_53_code
def yX7_isByte : MethodName := ⟨RX7, "isByte", "(I)Z"⟩
abbrev cX7_isEither : ByteArray := prog_1_method_54_code
def yX7_isEither : MethodName := ⟨RX7, "isEither", "(I)Z"⟩
abbrev cX7_isHour : ByteArray := prog_1_method_55_code
def yX7_isHour : MethodName := ⟨RX7, "isHour", "(I)Z"⟩
abbrev cX7_isKind : ByteArray := prog_1_method_56_code
def yX7_isKind : MethodName := ⟨RX7, "isKind", "(I)Z"⟩
abbrev cX7_isSort : ByteArray := prog_1_method_57_code
def yX7_isSort : MethodName := ⟨RX7, "isSort", "(I)Z"⟩
abbrev cX7_cheapestSaws : ByteArray := prog_1_method_61_code
def yX7_cheapestSaws : MethodName := ⟨RX7, "cheapestSaws", "(II)I"⟩
abbrev cX7_priceOf : ByteArray := prog_1_method_62_code
def yX7_priceOf : MethodName := ⟨RX7, "priceOf", "(I)I"⟩
def RX8 : String := "LockedToAnothersModel"
def TX8 : u_T := fun k => match k with
  | _ => ("", "", "", false)
def tyX8 : Nat → FieldType := fun k => match k with
  | _ => .int
abbrev wsX80 : List Cond := u_ws RX8 TX8 0
theorem nmX8 : ∀ a, a < 0 → ∀ b, b < 0 → a ≠ b → (TX8 a).2.1 ≠ (TX8 b).2.1 := by decide +kernel
theorem tyX8_ok : ∀ k, k < 0 → parseFieldDescriptor (TX8 k).2.2.1 = some (tyX8 k) := by decide +kernel
def RJ5 : String := "java/lang/AbstractStringBuilder"
abbrev cJ5_init_d00df : ByteArray := prog_11_method_2_code
def yJ5_init_d00df : MethodName := ⟨RJ5, "<init>", "(I)V"⟩
abbrev cJ5_length_8abf5 : ByteArray := prog_11_method_6_code
def yJ5_length_8abf5 : MethodName := ⟨RJ5, "length", "()I"⟩
abbrev cJ5_ensureCapacityInternal_d00df : ByteArray := prog_11_method_9_code
def yJ5_ensureCapacityInternal_d00df : MethodName := ⟨RJ5, "ensureCapacityInternal", "(I)V"⟩
abbrev cJ5_newCapacity_0f7a4 : ByteArray := prog_11_method_10_code
def yJ5_newCapacity_0f7a4 : MethodName := ⟨RJ5, "newCapacity", "(I)I"⟩
abbrev cJ5_append_cf1ce : ByteArray := prog_11_method_22_code
def yJ5_append_cf1ce : MethodName := ⟨RJ5, "append", "(Ljava/lang/String;)Ljava/lang/AbstractStringBuilder;"⟩
abbrev cJ5_append_c97b9 : ByteArray := prog_11_method_32_code
def yJ5_append_c97b9 : MethodName := ⟨RJ5, "append", "(I)Ljava/lang/AbstractStringBuilder;"⟩
abbrev cJ5_getValue_6d5f1 : ByteArray := prog_11_method_64_code
def yJ5_getValue_6d5f1 : MethodName := ⟨RJ5, "getValue", "()[B"⟩
abbrev cJ5_isLatin1_aae02 : ByteArray := prog_11_method_68_code
def yJ5_isLatin1_aae02 : MethodName := ⟨RJ5, "isLatin1", "()Z"⟩
abbrev cJ5_inflateIfNeededFor_a7421 : ByteArray := prog_11_method_71_code
def yJ5_inflateIfNeededFor_a7421 : MethodName := ⟨RJ5, "inflateIfNeededFor", "(Ljava/lang/String;)V"⟩
abbrev cJ5_putStringAt_47b60 : ByteArray := prog_11_method_73_code
def yJ5_putStringAt_47b60 : MethodName := ⟨RJ5, "putStringAt", "(ILjava/lang/String;)V"⟩
def RJ11 : String := "java/lang/Character"
def RJ6 : String := "java/lang/Integer"
abbrev cJ6_getChars_ba4f3 : ByteArray := prog_14_method_12_code
def yJ6_getChars_ba4f3 : MethodName := ⟨RJ6, "getChars", "(II[B)I"⟩
abbrev cJ6_stringSize_0f7a4 : ByteArray := prog_14_method_13_code
def yJ6_stringSize_0f7a4 : MethodName := ⟨RJ6, "stringSize", "(I)I"⟩
abbrev cJ6_bitCount_0f7a4 : ByteArray := prog_14_method_49_code
def yJ6_bitCount_0f7a4 : MethodName := ⟨RJ6, "bitCount", "(I)I"⟩
def RJ13 : String := "java/lang/Long"
abbrev cJ13_bitCount_95d88 : ByteArray := prog_15_method_50_code
def yJ13_bitCount_95d88 : MethodName := ⟨RJ13, "bitCount", "(J)I"⟩
def RJ9 : String := "java/lang/Math"
def RJ0 : String := "java/lang/String"
def TJ0 : u_T := fun k => match k with
  | 0 => ("java/lang/String", "value", "[B", true)
  | 1 => ("java/lang/String", "coder", "B", true)
  | 2 => ("java/lang/String", "hash", "I", false)
  | _ => ("java/lang/String", "hashIsZero", "Z", false)
def tyJ0 : Nat → FieldType := fun k => match k with
  | 0 => .array .byte
  | 1 => .byte
  | 2 => .int
  | _ => .boolean
abbrev wsJ00 : List Cond := u_ws RJ0 TJ0 4
theorem nmJ0 : ∀ a, a < 4 → ∀ b, b < 4 → a ≠ b → (TJ0 a).2.1 ≠ (TJ0 b).2.1 := by decide +kernel
theorem tyJ0_ok : ∀ k, k < 4 → parseFieldDescriptor (TJ0 k).2.2.1 = some (tyJ0 k) := by decide +kernel
abbrev cJ0_init_81219 : ByteArray := prog_17_method_53_code
def yJ0_init_81219 : MethodName := ⟨RJ0, "<init>", "(Ljava/lang/StringBuilder;)V"⟩
abbrev cJ0_length_8abf5 : ByteArray := prog_17_method_54_code
def yJ0_length_8abf5 : MethodName := ⟨RJ0, "length", "()I"⟩
abbrev cJ0_charAt_5068e : ByteArray := prog_17_method_56_code
def yJ0_charAt_5068e : MethodName := ⟨RJ0, "charAt", "(I)C"⟩
abbrev cJ0_indexOf_0f7a4 : ByteArray := prog_17_method_79_code
def yJ0_indexOf_0f7a4 : MethodName := ⟨RJ0, "indexOf", "(I)I"⟩
abbrev cJ0_indexOf_7cf53 : ByteArray := prog_17_method_80_code
def yJ0_indexOf_7cf53 : MethodName := ⟨RJ0, "indexOf", "(II)I"⟩
abbrev cJ0_getBytes_840e7 : ByteArray := prog_17_method_147_code
def yJ0_getBytes_840e7 : MethodName := ⟨RJ0, "getBytes", "([BIB)V"⟩
abbrev cJ0_init_db425 : ByteArray := prog_17_method_150_code
def yJ0_init_db425 : MethodName := ⟨RJ0, "<init>", "(Ljava/lang/AbstractStringBuilder;Ljava/lang/Void;)V"⟩
abbrev cJ0_coder_7d493 : ByteArray := prog_17_method_152_code
def yJ0_coder_7d493 : MethodName := ⟨RJ0, "coder", "()B"⟩
abbrev cJ0_isLatin1_aae02 : ByteArray := prog_17_method_154_code
def yJ0_isLatin1_aae02 : MethodName := ⟨RJ0, "isLatin1", "()Z"⟩
def RJ4 : String := "java/lang/StringBuilder"
def TJ4 : u_T := fun k => match k with
  | 0 => ("java/lang/AbstractStringBuilder", "value", "[B", false)
  | 1 => ("java/lang/AbstractStringBuilder", "coder", "B", false)
  | 2 => ("java/lang/AbstractStringBuilder", "maybeLatin1", "Z", false)
  | _ => ("java/lang/AbstractStringBuilder", "count", "I", false)
def tyJ4 : Nat → FieldType := fun k => match k with
  | 0 => .array .byte
  | 1 => .byte
  | 2 => .boolean
  | _ => .int
abbrev wsJ40 : List Cond := u_ws RJ4 TJ4 4
theorem nmJ4 : ∀ a, a < 4 → ∀ b, b < 4 → a ≠ b → (TJ4 a).2.1 ≠ (TJ4 b).2.1 := by decide +kernel
theorem tyJ4_ok : ∀ k, k < 4 → parseFieldDescriptor (TJ4 k).2.2.1 = some (tyJ4 k) := by decide +kernel
abbrev cJ4_init_da8c8 : ByteArray := prog_18_method_1_code
def yJ4_init_da8c8 : MethodName := ⟨RJ4, "<init>", "()V"⟩
abbrev cJ4_append_15ec4 : ByteArray := prog_18_method_7_code
def yJ4_append_15ec4 : MethodName := ⟨RJ4, "append", "(Ljava/lang/String;)Ljava/lang/StringBuilder;"⟩
abbrev cJ4_append_bf812 : ByteArray := prog_18_method_15_code
def yJ4_append_bf812 : MethodName := ⟨RJ4, "append", "(I)Ljava/lang/StringBuilder;"⟩
abbrev cJ4_toString_0e30d : ByteArray := prog_18_method_42_code
def yJ4_toString_0e30d : MethodName := ⟨RJ4, "toString", "()Ljava/lang/String;"⟩
abbrev cJ4_length_8abf5 : ByteArray := prog_18_method_93_code
def yJ4_length_8abf5 : MethodName := ⟨RJ4, "length", "()I"⟩
def RJ1 : String := "java/lang/StringLatin1"
abbrev cJ1_charAt_3b067 : ByteArray := prog_19_method_2_code
def yJ1_charAt_3b067 : MethodName := ⟨RJ1, "charAt", "([BI)C"⟩
abbrev cJ1_canEncode_9a6ad : ByteArray := prog_19_method_4_code
def yJ1_canEncode_9a6ad : MethodName := ⟨RJ1, "canEncode", "(I)Z"⟩
abbrev cJ1_indexOf_4cfef : ByteArray := prog_19_method_22_code
def yJ1_indexOf_4cfef : MethodName := ⟨RJ1, "indexOf", "([BIII)I"⟩
abbrev cJ1_indexOfChar_4cfef : ByteArray := prog_19_method_23_code
def yJ1_indexOfChar_4cfef : MethodName := ⟨RJ1, "indexOfChar", "([BIII)I"⟩
def RJ2 : String := "java/lang/StringUTF16"
def RJ10 : String := "java/lang/System"
def RJ7 : String := "java/util/Arrays"
abbrev cJ7_copyOf_9075b : ByteArray := prog_22_method_121_code
def yJ7_copyOf_9075b : MethodName := ⟨RJ7, "copyOf", "([BI)[B"⟩
abbrev cJ7_checkLength_df160 : ByteArray := prog_22_method_131_code
def yJ7_checkLength_df160 : MethodName := ⟨RJ7, "checkLength", "(II)V"⟩
abbrev cJ7_copyOfRange_39247 : ByteArray := prog_22_method_132_code
def yJ7_copyOfRange_39247 : MethodName := ⟨RJ7, "copyOfRange", "([BII)[B"⟩
abbrev cJ7_copyOfRangeByte_39247 : ByteArray := prog_22_method_133_code
def yJ7_copyOfRangeByte_39247 : MethodName := ⟨RJ7, "copyOfRangeByte", "([BII)[B"⟩
def RJ8 : String := "jdk/internal/util/ArraysSupport"
abbrev cJ8_newLength_cabcc : ByteArray := prog_23_method_27_code
def yJ8_newLength_cabcc : MethodName := ⟨RJ8, "newLength", "(III)I"⟩
def RJ3 : String := "jdk/internal/util/Preconditions"
def RL : String := "LockedToAnothersLaw"
abbrev cL_at : ByteArray := method_2_code
def yL_at : MethodName := ⟨RL, "at", "([II)I"⟩
abbrev cL_text : ByteArray := method_3_code
def yL_text : MethodName := ⟨RL, "text", "(LLockedToAnothers;Ljava/lang/String;)V"⟩
abbrev cL_build : ByteArray := method_4_code
def yL_build : MethodName := ⟨RL, "build", "([I)LLockedToAnothers;"⟩
abbrev cL_plain : ByteArray := method_5_code
def yL_plain : MethodName := ⟨RL, "plain", "([I)Z"⟩
abbrev cL_things : ByteArray := method_6_code
def yL_things : MethodName := ⟨RL, "things", "([I)I"⟩
abbrev cL_locks : ByteArray := method_7_code
def yL_locks : MethodName := ⟨RL, "locks", "([I)I"⟩
abbrev cL_kind : ByteArray := method_8_code
def yL_kind : MethodName := ⟨RL, "kind", "([II)I"⟩
abbrev cL_more : ByteArray := method_9_code
def yL_more : MethodName := ⟨RL, "more", "([II)I"⟩
abbrev cL_come : ByteArray := method_10_code
def yL_come : MethodName := ⟨RL, "come", "([II)I"⟩
abbrev cL_owner : ByteArray := method_11_code
def yL_owner : MethodName := ⟨RL, "owner", "([II)I"⟩
abbrev cL_sort : ByteArray := method_12_code
def yL_sort : MethodName := ⟨RL, "sort", "([II)I"⟩
abbrev cL_through : ByteArray := method_13_code
def yL_through : MethodName := ⟨RL, "through", "([II)I"⟩
abbrev cL_sawn : ByteArray := method_14_code
def yL_sawn : MethodName := ⟨RL, "sawn", "([II)Z"⟩
abbrev cL_held : ByteArray := method_15_code
def yL_held : MethodName := ⟨RL, "held", "(III)I"⟩
abbrev cL_saws : ByteArray := method_17_code
def yL_saws : MethodName := ⟨RL, "saws", "([III)I"⟩
abbrev cL_start : ByteArray := method_19_code
def yL_start : MethodName := ⟨RL, "start", "([I[J)V"⟩
abbrev cL_fix : ByteArray := method_20_code
def yL_fix : MethodName := ⟨RL, "fix", "([I[JIII)Z"⟩
abbrev cL_holds : ByteArray := method_21_code
def yL_holds : MethodName := ⟨RL, "holds", "([I[JI)I"⟩
abbrev cL_can : ByteArray := method_22_code
def yL_can : MethodName := ⟨RL, "can", "([I[JI)Z"⟩
abbrev cL_last : ByteArray := method_23_code
def yL_last : MethodName := ⟨RL, "last", "([I[J)I"⟩
abbrev cL_law : ByteArray := code
def yL_law : MethodName := ⟨RL, "law", "([I)Z"⟩
abbrev vwCl : List vw_C := [(RX0, TX0, 2), (RX2, TX2, 8), (RX3, TX3, 4), (RX4, TX4, 12), (RX5, TX5, 9), (RX6, TX6, 3), (RX7, TX7, 10), (RJ4, TJ4, 4), (RJ0, TJ0, 4)]
theorem am_mem {ws big : List Jvm.Cond} (ps : List Nat) (hp : ws = ps.filterMap (fun i => big[i]?)) : ∀ w ∈ ws, w ∈ big := by
  intro w hw
  rw [hp] at hw
  obtain ⟨i, -, hi⟩ := List.mem_filterMap.mp hw
  exact List.mem_of_getElem? hi
/-- AbstractStringBuilder's private methods, on a StringBuilder -/
def am_pj : List MethodName := [⟨"java/lang/AbstractStringBuilder", "ensureCapacityInternal", "(I)V"⟩, ⟨"java/lang/AbstractStringBuilder", "newCapacity", "(I)I"⟩, ⟨"java/lang/AbstractStringBuilder", "putStringAt", "(ILjava/lang/String;)V"⟩, ⟨"java/lang/AbstractStringBuilder", "inflateIfNeededFor", "(Ljava/lang/String;)V"⟩]
def am_selj : List Jvm.Cond := am_pj.map fun y => Jvm.Cond.selects "java/lang/StringBuilder" y y
/-- all the words: what a StringBuilder's own calls select, and the tables' -/
def wt_tbl : List Jvm.Cond := am_selj ++ lw_tbl
theorem wt_sel {x y : MethodName} {s : State} {args : Array Value} {C : String} (hxy : x.cls = y.cls) (hy : y.cls ≠ "java/lang/invoke/MethodHandle" ∧ y.cls ≠ "java/lang/invoke/VarHandle") (h0 : (Jvm.Cond.selects C x x).before args s = true) (hpriv : (Jvm.Cond.privateMethod y).before args s = true) (hinst : (Jvm.Cond.instanceMethod y).before args s = true) : (Jvm.Cond.selects C y y).before args s = true := by
  obtain ⟨mk, methM, hnamed, hmethM, -, -⟩ := Cond.instanceMethod_spec hinst
  have hfound : s.methodFound? y.cls y.name y.desc = some mk := State.methodFound?_of_named hnamed hy
  simp only [Cond.before, Cond.holds, Cond.value] at h0
  split at h0
  · rename_i c r m h1 h2 h3
    have hcls : m.cls = mk.cls := Option.some.inj ((findClass_of_methodNamed h3).symm.trans ((congrArg s.vm.findClass hxy).trans (findClass_of_methodNamed hnamed)))
    have hsel : selectMethod {} s.vm c mk = .method mk := selectMethod_private hmethM (Cond.privateMethod_at hpriv mk methM hnamed hmethM)
    simp only [Cond.before, Cond.holds, Cond.value, h1, hfound, hnamed, hsel]
    split at h0
    · simp only [beq_iff_eq, Option.some.injEq, Bool.and_eq_true, decide_eq_true_eq] at h0 ⊢
      exact ⟨trivial, by rw [← hcls]; exact h0.2⟩
    · simp at h0
  · simp at h0
theorem inX0 : ∀ w ∈ wsX00, w ∈ wt_tbl := am_mem [375, 377] (by decide +kernel)
theorem inX2 : ∀ w ∈ wsX20, w ∈ wt_tbl := am_mem [330, 332, 334, 336, 338, 340, 342, 344] (by decide +kernel)
theorem inX3 : ∀ w ∈ wsX30, w ∈ wt_tbl := am_mem [358, 360, 362, 364] (by decide +kernel)
theorem inX4 : ∀ w ∈ wsX40, w ∈ wt_tbl := am_mem [86, 88, 90, 92, 94, 96, 98, 100, 102, 104, 106, 108] (by decide +kernel)
theorem inX5 : ∀ w ∈ wsX50, w ∈ wt_tbl := am_mem [135, 137, 139, 141, 143, 145, 147, 149, 151] (by decide +kernel)
theorem inX6 : ∀ w ∈ wsX60, w ∈ wt_tbl := am_mem [390, 392, 394] (by decide +kernel)
theorem inX7 : ∀ w ∈ wsX70, w ∈ wt_tbl := am_mem [407, 409, 411, 413, 415, 417, 419, 421, 423, 425] (by decide +kernel)
theorem inJ4 : ∀ w ∈ wsJ40, w ∈ wt_tbl := am_mem [682, 684, 686, 688] (by decide +kernel)
theorem inJ0 : ∀ w ∈ wsJ00, w ∈ wt_tbl := am_mem [856, 858, 860, 862] (by decide +kernel)
end
section
/-! ===== AN ABSTRACT MACHINE: the methods' own bytecode over a heap of cells whose references are PLACES in the heap's list; what one instruction asks and does is a proposition ===== -/
/-- a cell: an array (its kind 0 int, 1 long, 2 Sheet, 3 int[], 4 byte; length, contents), or an object (class, fields) -/
abbrev am_C : Type := (Nat × vp_A) ⊕ (Nat × List Value)
abbrev am_H : Type := List am_C
abbrev am_L : Type := List (Nat × Value)
/-- pc, locals, operand stack, heap, cells and slots made so far -/
abbrev am_S : Type := Nat × am_L × List Value × am_H × Nat × Nat
/-- an instruction; a, b: what it is linked to (target; class and field; method; constant); the place of its word in lw_tbl; the locals that live on behind it, and at its target; a switch's targets -/
abbrev am_I : Type := Instr × Nat × Nat × Nat × Option (List Nat) × Option (List Nat) × List (Nat × List Nat)
def am_pick (ks : Option (List Nat)) (lv : am_L) : am_L := match ks with
  | none => lv
  | some ks => ks.filterMap (fun k => lv.find? (fun q => Nat.beq q.1 k))
def am_get (lv : am_L) (i : Nat) : Option Value := match lv with
  | [] => none
  | q :: r => match Nat.beq q.1 i with
    | true => some q.2
    | false => am_get r i
def am_set1 (i : Nat) (v : Value) (lv : am_L) : am_L := (i, v) :: lv.filter (fun q => !(q.1 == i) && !(q.1 + 1 == i && q.2.category == 2))
def am_set2 (i : Nat) (v : Value) (lv : am_L) : am_L := (i, v) :: lv.filter (fun q => !(q.1 == i) && (!(q.1 == i + 1) && !(q.1 + 1 == i && q.2.category == 2)))
def am_b (b : Bool) (P : Prop) : Prop := match b with
  | true => P
  | false => False
def am_i1 (st : List Value) (K : Int32 → List Value → Prop) : Prop := match st with
  | .int x :: r => K x r
  | _ => False
def am_i2 (st : List Value) (K : Int32 → Int32 → List Value → Prop) : Prop := match st with
  | .int y :: .int x :: r => K x y r
  | _ => False
def am_l1 (st : List Value) (K : Int64 → List Value → Prop) : Prop := match st with
  | .long x :: r => K x r
  | _ => False
def am_l2 (st : List Value) (K : Int64 → Int64 → List Value → Prop) : Prop := match st with
  | .long y :: .long x :: r => K x y r
  | _ => False
def am_r1 (st : List Value) (K : Nat → List Value → Prop) : Prop := match st with
  | .ref a :: r => K a r
  | _ => False
def am_ov (o : Option Value) (K : Value → Prop) : Prop := match o with
  | some v => K v
  | none => False
def am_oi (o : Option Value) (K : Int32 → Prop) : Prop := match o with
  | some (.int v) => K v
  | _ => False
def am_ol (o : Option Value) (K : Int64 → Prop) : Prop := match o with
  | some (.long v) => K v
  | _ => False
def am_oa (o : Option Value) (K : Nat → Prop) : Prop := match o with
  | some (.ref v) => K v
  | _ => False
def am_obj (h : am_H) (r : Nat) (K : Nat → List Value → Prop) : Prop := match h[r]? with
  | some (.inr o) => K o.1 o.2
  | _ => False
def am_arr (h : am_H) (r : Nat) (K : Nat → vp_A → Prop) : Prop := match h[r]? with
  | some (.inl o) => K o.1 o.2
  | _ => False
def am_ai (a : vp_A) (K : (Nat → Int32) → Prop) : Prop := match a.2 with
  | .inl f => K f
  | _ => False
def am_al (a : vp_A) (K : (Nat → Int64) → Prop) : Prop := match a.2 with
  | .inr (.inl f) => K f
  | _ => False
def am_aq (a : vp_A) (K : (Nat → Option Nat) → Prop) : Prop := match a.2 with
  | .inr (.inr (.inr (.inr f))) => K f
  | _ => False
/-- the arguments off the stack, the last first -/
def am_take : Nat → List Value → List Value → Option (List Value × List Value)
  | 0, acc, st => some (acc, st)
  | n + 1, acc, v :: st => am_take n (v :: acc) st
  | _ + 1, _, [] => none
/-- no reference to a place from lo up to below hi -/
def am_nr (lo hi : Nat) (v : Value) : Bool := match v with
  | .ref a => !(Nat.ble lo a && Nat.ble (a + 1) hi)
  | _ => true
def am_nc (lo hi : Nat) (c : am_C) : Bool := match c with
  | .inr o => o.2.all (am_nr lo hi)
  | .inl (_, n, .inr (.inr (.inr (.inr f)))) => (List.range n).all (fun i => match f i with
    | some a => am_nr lo hi (.ref a)
    | none => true)
  | .inl _ => true
def am_nh (lo hi : Nat) (lv : am_L) (st : List Value) (h : am_H) : Bool := lv.all (fun q => am_nr lo hi q.2) && (st.all (am_nr lo hi) && h.all (am_nc lo hi))
def am_cat (st : List Value) : Nat := (st.map fun v => v.category).sum
/-- a static array's place; String constants' places -/
def am_pX : Nat := 2000000
def am_pS : Nat := 3000000
/-- the law's script -/
def am_pL : Nat := 2500000
def am_above (j : Nat) : Int32 := match j with
  | 0 => -1
  | 1 => 0
  | 2 => 0
  | 3 => 1
  | 4 => 2
  | _ => 0
def am_sw (x : Int32) (K : Nat × List Nat → Prop) (d : Nat × List Nat) : Int → List (Nat × List Nat) → Prop
  | _, [] => K d
  | j, t :: ts => (x.toInt = j → K t) ∧ (¬ x.toInt = j → am_sw x K d (j + 1) ts)
def am_lw (x : Int32) (K : Nat × List Nat → Prop) (d : Nat × List Nat) : List (Int × Int) → List (Nat × List Nat) → Prop
  | p :: ps, t :: ts => (x.toInt = p.1 → K t) ∧ (¬ x.toInt = p.1 → am_lw x K d ps ts)
  | _, _ => K d
/-- what a method does: its number, arguments, heap; answer, heap, cells and slots made -/
abbrev am_E : Type := Nat → List Value → am_H → Option Value → am_H → Nat → Nat → Prop
def am_ty (ci k : Nat) : FieldType := match ci with
  | 0 => tyX0 k
  | 1 => tyX2 k
  | 2 => tyX3 k
  | 3 => tyX4 k
  | 4 => tyX5 k
  | 5 => tyX6 k
  | 6 => tyX7 k
  | 7 => tyJ4 k
  | _ => tyJ0 k
def am_T (ci : Nat) : u_T := match ci with
  | 0 => TX0
  | 1 => TX2
  | 2 => TX3
  | 3 => TX4
  | 4 => TX5
  | 5 => TX6
  | 6 => TX7
  | 7 => TJ4
  | _ => TJ0
def am_R (ci : Nat) : String := match ci with
  | 0 => RX0
  | 1 => RX2
  | 2 => RX3
  | 3 => RX4
  | 4 => RX5
  | 5 => RX6
  | 6 => RX7
  | 7 => RJ4
  | _ => RJ0
def am_Nf (ci : Nat) : Nat := match ci with
  | 0 => 2
  | 1 => 8
  | 2 => 4
  | 3 => 12
  | 4 => 9
  | 5 => 3
  | 6 => 10
  | 7 => 4
  | _ => 4
def am_dfl (ci : Nat) : List Value := (List.range (am_Nf ci)).map (fun k => defaultValue (am_ty ci k))
end
section
-- ===== the methods' tables, written by gen_tables.py out of the printed decode rows =====
abbrev k_Day_init : Nat := 0
noncomputable def tb_0 (pc : Nat) : Option am_I := bif Nat.ble 9 pc then (bif Nat.ble 13 pc then (bif Nat.ble 14 pc then (bif Nat.ble 17 pc then (bif Nat.beq pc 17 then some (.return_, 0, 0, 0, none, none, []) else none) else (bif Nat.beq pc 14 then some (.putfield 15, 0, 0, 10114, none, none, []) else none)) else (bif Nat.beq pc 13 then some (.aload_n 1, 0, 0, 0, none, none, []) else none)) else (bif Nat.ble 12 pc then (bif Nat.beq pc 12 then some (.aload_n 0, 0, 0, 0, none, none, []) else none) else (bif Nat.beq pc 9 then some (.putfield 9, 0, 1, 10115, none, none, []) else none))) else (bif Nat.ble 4 pc then (bif Nat.ble 5 pc then (bif Nat.ble 7 pc then (bif Nat.beq pc 7 then some (.newarray .int, 0, 0, 0, none, none, []) else none) else (bif Nat.beq pc 5 then some (.bipush 8, 0, 0, 0, none, none, []) else none)) else (bif Nat.beq pc 4 then some (.aload_n 0, 0, 0, 0, none, none, []) else none)) else (bif Nat.ble 1 pc then (bif Nat.beq pc 1 then some (.invokespecial 1, 9999, 0, 10113, none, none, []) else none) else (bif Nat.beq pc 0 then some (.aload_n 0, 0, 0, 0, none, none, []) else none)))
abbrev k_Kinds_isHeld : Nat := 1
noncomputable def tb_1 (pc : Nat) : Option am_I := bif Nat.ble 42 pc then (bif Nat.ble 49 pc then (bif Nat.ble 54 pc then (bif Nat.ble 55 pc then (bif Nat.ble 56 pc then (bif Nat.beq pc 56 then some (.ireturn, 0, 0, 0, none, none, []) else none) else (bif Nat.beq pc 55 then some (.iconst 1, 0, 0, 0, none, none, []) else none)) else (bif Nat.beq pc 54 then some (.ireturn, 0, 0, 0, none, none, []) else none)) else (bif Nat.ble 50 pc then (bif Nat.ble 53 pc then (bif Nat.beq pc 53 then some (.iconst 0, 0, 0, 0, some [], none, []) else none) else (bif Nat.beq pc 50 then some (.goto 4, 54, 0, 0, none, some [], []) else none)) else (bif Nat.beq pc 49 then some (.iconst 1, 0, 0, 0, none, none, []) else none))) else (bif Nat.ble 44 pc then (bif Nat.ble 45 pc then (bif Nat.ble 46 pc then (bif Nat.beq pc 46 then some (.if_icmp .le 7, 53, 0, 0, none, some [], []) else none) else (bif Nat.beq pc 45 then some (.iload_n 1, 0, 0, 0, none, none, []) else none)) else (bif Nat.beq pc 44 then some (.imul, 0, 0, 0, none, none, []) else none)) else (bif Nat.ble 43 pc then (bif Nat.beq pc 43 then some (.iload_n 2, 0, 0, 0, none, none, []) else none) else (bif Nat.beq pc 42 then some (.iconst 3, 0, 0, 0, none, none, []) else none)))) else (bif Nat.ble 33 pc then (bif Nat.ble 37 pc then (bif Nat.ble 38 pc then (bif Nat.ble 39 pc then (bif Nat.beq pc 39 then some (.ifCond .eq 14, 53, 0, 0, none, some [], []) else none) else (bif Nat.beq pc 38 then some (.iload_n 2, 0, 0, 0, none, none, []) else none)) else (bif Nat.beq pc 37 then some (.ireturn, 0, 0, 0, none, none, []) else none)) else (bif Nat.ble 36 pc then (bif Nat.beq pc 36 then some (.iconst 0, 0, 0, 0, some [], none, []) else none) else (bif Nat.beq pc 33 then some (.goto 4, 37, 0, 0, none, some [], []) else none))) else (bif Nat.ble 28 pc then (bif Nat.ble 29 pc then (bif Nat.ble 32 pc then (bif Nat.beq pc 32 then some (.iconst 1, 0, 0, 0, none, none, []) else none) else (bif Nat.beq pc 29 then some (.ifCond .eq 7, 36, 0, 0, none, some [], []) else none)) else (bif Nat.beq pc 28 then some (.iload_n 2, 0, 0, 0, none, none, []) else none)) else (bif Nat.ble 1 pc then (bif Nat.beq pc 1 then some (.lookupswitch 54 #[(2, 27), (4, 37)], 0, 0, 0, none, none, [(55, []), (28, [2]), (38, [1, 2])]) else none) else (bif Nat.beq pc 0 then some (.iload_n 0, 0, 0, 0, none, none, []) else none))))
abbrev k_Kinds_goesIn : Nat := 2
noncomputable def tb_2 (pc : Nat) : Option am_I := bif Nat.ble 40 pc then (bif Nat.ble 49 pc then (bif Nat.ble 51 pc then (bif Nat.ble 52 pc then (bif Nat.ble 53 pc then (bif Nat.beq pc 53 then some (.ireturn, 0, 0, 0, none, none, []) else none) else (bif Nat.beq pc 52 then some (.iconst 1, 0, 0, 0, none, none, []) else none)) else (bif Nat.beq pc 51 then some (.ireturn, 0, 0, 0, none, none, []) else none)) else (bif Nat.ble 50 pc then (bif Nat.beq pc 50 then some (.iconst 0, 0, 0, 0, none, none, []) else none) else (bif Nat.beq pc 49 then some (.ireturn, 0, 0, 0, none, none, []) else none))) else (bif Nat.ble 44 pc then (bif Nat.ble 45 pc then (bif Nat.ble 48 pc then (bif Nat.beq pc 48 then some (.iconst 0, 0, 0, 0, some [], none, []) else none) else (bif Nat.beq pc 45 then some (.goto 4, 49, 0, 0, none, some [], []) else none)) else (bif Nat.beq pc 44 then some (.iconst 1, 0, 0, 0, none, none, []) else none)) else (bif Nat.ble 41 pc then (bif Nat.beq pc 41 then some (.if_icmp .gt 7, 48, 0, 0, none, some [], []) else none) else (bif Nat.beq pc 40 then some (.iadd, 0, 0, 0, none, none, []) else none)))) else (bif Nat.ble 34 pc then (bif Nat.ble 37 pc then (bif Nat.ble 38 pc then (bif Nat.ble 39 pc then (bif Nat.beq pc 39 then some (.imul, 0, 0, 0, none, none, []) else none) else (bif Nat.beq pc 38 then some (.iload_n 1, 0, 0, 0, none, none, []) else none)) else (bif Nat.beq pc 37 then some (.iconst 2, 0, 0, 0, none, none, []) else none)) else (bif Nat.ble 35 pc then (bif Nat.beq pc 35 then some (.bipush 6, 0, 0, 0, none, none, []) else none) else (bif Nat.beq pc 34 then some (.iload_n 2, 0, 0, 0, none, none, []) else none))) else (bif Nat.ble 28 pc then (bif Nat.ble 29 pc then (bif Nat.ble 31 pc then (bif Nat.beq pc 31 then some (.if_icmp .lt 17, 48, 0, 0, none, some [], []) else none) else (bif Nat.beq pc 29 then some (.bipush 6, 0, 0, 0, none, none, []) else none)) else (bif Nat.beq pc 28 then some (.iload_n 2, 0, 0, 0, none, none, []) else none)) else (bif Nat.ble 1 pc then (bif Nat.beq pc 1 then some (.lookupswitch 51 #[(3, 27), (5, 49)], 0, 0, 0, none, none, [(52, []), (28, [1, 2]), (50, [])]) else none) else (bif Nat.beq pc 0 then some (.iload_n 0, 0, 0, 0, none, none, []) else none))))
abbrev k_Kinds_everGoes : Nat := 3
noncomputable def tb_3 (pc : Nat) : Option am_I := bif Nat.ble 11 pc then (bif Nat.ble 19 pc then (bif Nat.ble 25 pc then (bif Nat.ble 26 pc then (bif Nat.beq pc 26 then some (.ireturn, 0, 0, 0, none, none, []) else none) else (bif Nat.beq pc 25 then some (.iconst 0, 0, 0, 0, none, none, []) else none)) else (bif Nat.ble 22 pc then (bif Nat.beq pc 22 then some (.goto (-20), 2, 0, 0, none, some [0, 1, 2], []) else none) else (bif Nat.beq pc 19 then some (.iinc 2 1, 0, 0, 0, none, none, []) else none))) else (bif Nat.ble 17 pc then (bif Nat.ble 18 pc then (bif Nat.beq pc 18 then some (.ireturn, 0, 0, 0, none, none, []) else none) else (bif Nat.beq pc 17 then some (.iconst 1, 0, 0, 0, none, none, []) else none)) else (bif Nat.ble 14 pc then (bif Nat.beq pc 14 then some (.ifCond .eq 5, 19, 0, 0, none, some [0, 1, 2], []) else none) else (bif Nat.beq pc 11 then some (.invokestatic 11, 2, 0, 20115, none, none, []) else none)))) else (bif Nat.ble 5 pc then (bif Nat.ble 9 pc then (bif Nat.ble 10 pc then (bif Nat.beq pc 10 then some (.iload_n 2, 0, 0, 0, none, none, []) else none) else (bif Nat.beq pc 9 then some (.iload_n 1, 0, 0, 0, none, none, []) else none)) else (bif Nat.ble 8 pc then (bif Nat.beq pc 8 then some (.iload_n 0, 0, 0, 0, none, none, []) else none) else (bif Nat.beq pc 5 then some (.if_icmp .ge 20, 25, 0, 0, none, some [], []) else none))) else (bif Nat.ble 2 pc then (bif Nat.ble 3 pc then (bif Nat.beq pc 3 then some (.bipush 24, 0, 0, 0, none, none, []) else none) else (bif Nat.beq pc 2 then some (.iload_n 2, 0, 0, 0, none, none, []) else none)) else (bif Nat.ble 1 pc then (bif Nat.beq pc 1 then some (.istore_n 2, 0, 0, 0, some [0, 1, 2], none, []) else none) else (bif Nat.beq pc 0 then some (.iconst 0, 0, 0, 0, none, none, []) else none))))
abbrev k_Law_init : Nat := 4
noncomputable def tb_4 (pc : Nat) : Option am_I := bif Nat.ble 66 pc then (bif Nat.ble 100 pc then (bif Nat.ble 114 pc then (bif Nat.ble 122 pc then (bif Nat.ble 124 pc then (bif Nat.ble 127 pc then (bif Nat.beq pc 127 then some (.return_, 0, 0, 0, none, none, []) else none) else (bif Nat.beq pc 124 then some (.putfield 16, 1, 1, 10062, some [], none, []) else none)) else (bif Nat.ble 123 pc then (bif Nat.beq pc 123 then some (.iconst 1, 0, 0, 0, none, none, []) else none) else (bif Nat.beq pc 122 then some (.aload_n 0, 0, 0, 0, none, none, []) else none))) else (bif Nat.ble 116 pc then (bif Nat.ble 119 pc then (bif Nat.beq pc 119 then some (.ifCond .eq 8, 127, 0, 0, none, some [], []) else none) else (bif Nat.beq pc 116 then some (.invokevirtual 58, 34, 0, 190, none, none, []) else none)) else (bif Nat.ble 115 pc then (bif Nat.beq pc 115 then some (.aaload, 0, 0, 0, none, none, []) else none) else (bif Nat.beq pc 114 then some (.iconst 0, 0, 0, 0, none, none, []) else none)))) else (bif Nat.ble 108 pc then (bif Nat.ble 110 pc then (bif Nat.ble 111 pc then (bif Nat.beq pc 111 then some (.getfield 28, 1, 5, 10068, none, none, []) else none) else (bif Nat.beq pc 110 then some (.aload_n 0, 0, 0, 0, none, none, []) else none)) else (bif Nat.ble 109 pc then (bif Nat.beq pc 109 then some (.aaload, 0, 0, 0, none, none, []) else none) else (bif Nat.beq pc 108 then some (.iconst 0, 0, 0, 0, none, none, []) else none))) else (bif Nat.ble 104 pc then (bif Nat.ble 105 pc then (bif Nat.beq pc 105 then some (.getfield 25, 1, 4, 10067, none, none, []) else none) else (bif Nat.beq pc 104 then some (.aload_n 0, 0, 0, 0, none, none, []) else none)) else (bif Nat.ble 101 pc then (bif Nat.beq pc 101 then some (.getfield 10, 1, 0, 10060, none, none, []) else none) else (bif Nat.beq pc 100 then some (.aload_n 0, 0, 0, 0, none, none, []) else none))))) else (bif Nat.ble 81 pc then (bif Nat.ble 88 pc then (bif Nat.ble 94 pc then (bif Nat.ble 97 pc then (bif Nat.beq pc 97 then some (.goto (-25), 72, 0, 0, none, some [0, 2], []) else none) else (bif Nat.beq pc 94 then some (.iinc 2 1, 0, 0, 0, none, none, []) else none)) else (bif Nat.ble 91 pc then (bif Nat.beq pc 91 then some (.invokevirtual 54, 33, 0, 186, none, none, []) else none) else (bif Nat.beq pc 88 then some (.invokevirtual 50, 88, 0, 148, none, none, []) else none))) else (bif Nat.ble 85 pc then (bif Nat.ble 87 pc then (bif Nat.beq pc 87 then some (.iload_n 2, 0, 0, 0, none, none, []) else none) else (bif Nat.beq pc 85 then some (.ldc 42, 0, 7, 137, none, none, []) else none)) else (bif Nat.ble 82 pc then (bif Nat.beq pc 82 then some (.getfield 10, 1, 0, 10060, none, none, []) else none) else (bif Nat.beq pc 81 then some (.aload_n 0, 0, 0, 0, none, none, []) else none)))) else (bif Nat.ble 72 pc then (bif Nat.ble 75 pc then (bif Nat.ble 78 pc then (bif Nat.beq pc 78 then some (.if_icmp .ge 22, 100, 0, 0, none, some [0], []) else none) else (bif Nat.beq pc 75 then some (.invokevirtual 44, 87, 0, 138, none, none, []) else none)) else (bif Nat.ble 73 pc then (bif Nat.beq pc 73 then some (.ldc 42, 0, 7, 137, none, none, []) else none) else (bif Nat.beq pc 72 then some (.iload_n 2, 0, 0, 0, none, none, []) else none))) else (bif Nat.ble 70 pc then (bif Nat.ble 71 pc then (bif Nat.beq pc 71 then some (.istore_n 2, 0, 0, 0, some [0, 2], none, []) else none) else (bif Nat.beq pc 70 then some (.iconst 0, 0, 0, 0, none, none, []) else none)) else (bif Nat.ble 67 pc then (bif Nat.beq pc 67 then some (.putfield 38, 1, 3, 10066, none, none, []) else none) else (bif Nat.beq pc 66 then some (.aload_n 1, 0, 0, 0, none, none, []) else none)))))) else (bif Nat.ble 31 pc then (bif Nat.ble 50 pc then (bif Nat.ble 58 pc then (bif Nat.ble 62 pc then (bif Nat.ble 65 pc then (bif Nat.beq pc 65 then some (.aload_n 0, 0, 0, 0, none, none, []) else none) else (bif Nat.beq pc 62 then some (.putfield 35, 1, 7, 10070, none, none, []) else none)) else (bif Nat.ble 60 pc then (bif Nat.beq pc 60 then some (.newarray .int, 0, 0, 0, none, none, []) else none) else (bif Nat.beq pc 58 then some (.bipush 64, 0, 0, 0, none, none, []) else none))) else (bif Nat.ble 54 pc then (bif Nat.ble 57 pc then (bif Nat.beq pc 57 then some (.aload_n 0, 0, 0, 0, none, none, []) else none) else (bif Nat.beq pc 54 then some (.putfield 31, 1, 6, 10069, none, none, []) else none)) else (bif Nat.ble 52 pc then (bif Nat.beq pc 52 then some (.newarray .int, 0, 0, 0, none, none, []) else none) else (bif Nat.beq pc 50 then some (.bipush 6, 0, 0, 0, none, none, []) else none)))) else (bif Nat.ble 41 pc then (bif Nat.ble 46 pc then (bif Nat.ble 49 pc then (bif Nat.beq pc 49 then some (.aload_n 0, 0, 0, 0, none, none, []) else none) else (bif Nat.beq pc 46 then some (.putfield 28, 1, 5, 10068, none, none, []) else none)) else (bif Nat.ble 42 pc then (bif Nat.beq pc 42 then some (.multianewarray 23 2, 0, 0, 135, none, none, []) else none) else (bif Nat.beq pc 41 then some (.iconst 3, 0, 0, 0, none, none, []) else none))) else (bif Nat.ble 38 pc then (bif Nat.ble 39 pc then (bif Nat.beq pc 39 then some (.bipush 6, 0, 0, 0, none, none, []) else none) else (bif Nat.beq pc 38 then some (.aload_n 0, 0, 0, 0, none, none, []) else none)) else (bif Nat.ble 35 pc then (bif Nat.beq pc 35 then some (.putfield 25, 1, 4, 10067, none, none, []) else none) else (bif Nat.beq pc 31 then some (.multianewarray 23 2, 0, 0, 135, none, none, []) else none))))) else (bif Nat.ble 16 pc then (bif Nat.ble 22 pc then (bif Nat.ble 26 pc then (bif Nat.ble 28 pc then (bif Nat.beq pc 28 then some (.sipush 160, 0, 0, 0, none, none, []) else none) else (bif Nat.beq pc 26 then some (.bipush 6, 0, 0, 0, none, none, []) else none)) else (bif Nat.ble 25 pc then (bif Nat.beq pc 25 then some (.aload_n 0, 0, 0, 0, none, none, []) else none) else (bif Nat.beq pc 22 then some (.putfield 20, 1, 2, 10064, none, none, []) else none))) else (bif Nat.ble 20 pc then (bif Nat.ble 21 pc then (bif Nat.beq pc 21 then some (.iconst 0, 0, 0, 0, none, none, []) else none) else (bif Nat.beq pc 20 then some (.aload_n 0, 0, 0, 0, none, none, []) else none)) else (bif Nat.ble 17 pc then (bif Nat.beq pc 17 then some (.putfield 16, 1, 1, 10062, none, none, []) else none) else (bif Nat.beq pc 16 then some (.iconst 0, 0, 0, 0, none, none, []) else none)))) else (bif Nat.ble 8 pc then (bif Nat.ble 12 pc then (bif Nat.ble 15 pc then (bif Nat.beq pc 15 then some (.aload_n 0, 0, 0, 0, none, none, []) else none) else (bif Nat.beq pc 12 then some (.putfield 10, 1, 0, 10060, none, none, []) else none)) else (bif Nat.ble 9 pc then (bif Nat.beq pc 9 then some (.invokespecial 9, 32, 1, 101, none, none, []) else none) else (bif Nat.beq pc 8 then some (.dup, 0, 0, 0, none, none, []) else none))) else (bif Nat.ble 4 pc then (bif Nat.ble 5 pc then (bif Nat.beq pc 5 then some (.new 7, 4, 0, 99, none, none, []) else none) else (bif Nat.beq pc 4 then some (.aload_n 0, 0, 0, 0, none, none, []) else none)) else (bif Nat.ble 1 pc then (bif Nat.beq pc 1 then some (.invokespecial 1, 9999, 0, 98, none, none, []) else none) else (bif Nat.beq pc 0 then some (.aload_n 0, 0, 0, 0, none, none, []) else none))))))
abbrev k_Law_takeTape : Nat := 5
noncomputable def tb_5 (pc : Nat) : Option am_I := bif Nat.ble 27 pc then (bif Nat.ble 40 pc then (bif Nat.ble 45 pc then (bif Nat.ble 49 pc then (bif Nat.ble 50 pc then (bif Nat.beq pc 50 then some (.ireturn, 0, 0, 0, none, none, []) else none) else (bif Nat.beq pc 49 then some (.iconst 1, 0, 0, 0, none, none, []) else none)) else (bif Nat.ble 46 pc then (bif Nat.beq pc 46 then some (.putfield 16, 1, 1, 10062, none, none, []) else none) else (bif Nat.beq pc 45 then some (.iadd, 0, 0, 0, none, none, []) else none))) else (bif Nat.ble 41 pc then (bif Nat.ble 44 pc then (bif Nat.beq pc 44 then some (.iconst 1, 0, 0, 0, none, none, []) else none) else (bif Nat.beq pc 41 then some (.getfield 16, 1, 1, 10062, none, none, []) else none)) else (bif Nat.beq pc 40 then some (.dup, 0, 0, 0, none, none, []) else none))) else (bif Nat.ble 34 pc then (bif Nat.ble 38 pc then (bif Nat.ble 39 pc then (bif Nat.beq pc 39 then some (.aload_n 0, 0, 0, 0, none, none, []) else none) else (bif Nat.beq pc 38 then some (.ireturn, 0, 0, 0, none, none, []) else none)) else (bif Nat.ble 37 pc then (bif Nat.beq pc 37 then some (.iconst 0, 0, 0, 0, none, none, []) else none) else (bif Nat.beq pc 34 then some (.ifCond .ne 5, 39, 0, 0, some [], some [0], []) else none))) else (bif Nat.ble 30 pc then (bif Nat.ble 31 pc then (bif Nat.beq pc 31 then some (.invokevirtual 58, 34, 0, 190, none, none, []) else none) else (bif Nat.beq pc 30 then some (.aaload, 0, 0, 0, none, none, []) else none)) else (bif Nat.beq pc 27 then some (.getfield 16, 1, 1, 10062, none, none, []) else none)))) else (bif Nat.ble 14 pc then (bif Nat.ble 21 pc then (bif Nat.ble 23 pc then (bif Nat.ble 26 pc then (bif Nat.beq pc 26 then some (.aload_n 0, 0, 0, 0, none, none, []) else none) else (bif Nat.beq pc 23 then some (.getfield 28, 1, 5, 10068, none, none, []) else none)) else (bif Nat.ble 22 pc then (bif Nat.beq pc 22 then some (.aload_n 0, 0, 0, 0, none, none, []) else none) else (bif Nat.beq pc 21 then some (.aaload, 0, 0, 0, none, none, []) else none))) else (bif Nat.ble 17 pc then (bif Nat.ble 18 pc then (bif Nat.beq pc 18 then some (.getfield 16, 1, 1, 10062, none, none, []) else none) else (bif Nat.beq pc 17 then some (.aload_n 0, 0, 0, 0, none, none, []) else none)) else (bif Nat.beq pc 14 then some (.getfield 25, 1, 4, 10067, none, none, []) else none))) else (bif Nat.ble 6 pc then (bif Nat.ble 10 pc then (bif Nat.ble 13 pc then (bif Nat.beq pc 13 then some (.aload_n 0, 0, 0, 0, none, none, []) else none) else (bif Nat.beq pc 10 then some (.getfield 10, 1, 0, 10060, none, none, []) else none)) else (bif Nat.ble 9 pc then (bif Nat.beq pc 9 then some (.aload_n 0, 0, 0, 0, none, none, []) else none) else (bif Nat.beq pc 6 then some (.if_icmp .ge 31, 37, 0, 0, none, some [], []) else none))) else (bif Nat.ble 1 pc then (bif Nat.ble 4 pc then (bif Nat.beq pc 4 then some (.bipush 6, 0, 0, 0, none, none, []) else none) else (bif Nat.beq pc 1 then some (.getfield 16, 1, 1, 10062, none, none, []) else none)) else (bif Nat.beq pc 0 then some (.aload_n 0, 0, 0, 0, none, none, []) else none))))
abbrev k_Law_says : Nat := 6
noncomputable def tb_6 (pc : Nat) : Option am_I := bif Nat.ble 56 pc then (bif Nat.ble 86 pc then (bif Nat.ble 100 pc then (bif Nat.ble 105 pc then (bif Nat.ble 109 pc then (bif Nat.ble 112 pc then (bif Nat.ble 115 pc then (bif Nat.beq pc 115 then some (.ireturn, 0, 0, 0, none, none, []) else none) else (bif Nat.beq pc 112 then some (.invokestatic 91, 9001, 0, 20020, none, none, []) else none)) else (bif Nat.beq pc 109 then some (.invokestatic 86, 9002, 0, 20019, none, none, []) else none)) else (bif Nat.ble 106 pc then (bif Nat.beq pc 106 then some (.invokevirtual 82, 8, 0, 20009, none, none, []) else none) else (bif Nat.beq pc 105 then some (.iload_n 2, 0, 0, 0, none, none, []) else none))) else (bif Nat.ble 103 pc then (bif Nat.ble 104 pc then (bif Nat.beq pc 104 then some (.iload_n 1, 0, 0, 0, none, none, []) else none) else (bif Nat.beq pc 103 then some (.aload_n 0, 0, 0, 0, none, none, []) else none)) else (bif Nat.ble 101 pc then (bif Nat.beq pc 101 then some (.bipush 99, 0, 0, 0, none, none, []) else none) else (bif Nat.beq pc 100 then some (.iconst 0, 0, 0, 0, none, none, []) else none)))) else (bif Nat.ble 94 pc then (bif Nat.ble 98 pc then (bif Nat.ble 99 pc then (bif Nat.beq pc 99 then some (.iastore, 0, 0, 0, none, none, []) else none) else (bif Nat.beq pc 98 then some (.iaload, 0, 0, 0, none, none, []) else none)) else (bif Nat.ble 97 pc then (bif Nat.beq pc 97 then some (.iload_n 3, 0, 0, 0, none, none, []) else none) else (bif Nat.beq pc 94 then some (.getfield 79, 3, 5, 50, none, none, []) else none))) else (bif Nat.ble 90 pc then (bif Nat.ble 91 pc then (bif Nat.beq pc 91 then some (.getfield 38, 1, 3, 10066, none, none, []) else none) else (bif Nat.beq pc 90 then some (.aload_n 0, 0, 0, 0, none, none, []) else none)) else (bif Nat.ble 89 pc then (bif Nat.beq pc 89 then some (.iconst 5, 0, 0, 0, none, none, []) else none) else (bif Nat.beq pc 86 then some (.getfield 31, 1, 6, 10069, none, none, []) else none))))) else (bif Nat.ble 71 pc then (bif Nat.ble 80 pc then (bif Nat.ble 84 pc then (bif Nat.ble 85 pc then (bif Nat.beq pc 85 then some (.aload_n 0, 0, 0, 0, none, none, []) else none) else (bif Nat.beq pc 84 then some (.iastore, 0, 0, 0, none, none, []) else none)) else (bif Nat.ble 81 pc then (bif Nat.beq pc 81 then some (.invokestatic 73, 84, 0, 20008, some [0, 1, 2, 3], none, []) else none) else (bif Nat.beq pc 80 then some (.iaload, 0, 0, 0, none, none, []) else none))) else (bif Nat.ble 75 pc then (bif Nat.ble 78 pc then (bif Nat.beq pc 78 then some (.iload 4, 0, 0, 0, none, none, []) else none) else (bif Nat.beq pc 75 then some (.getfield 70, 3, 10, 64, none, none, []) else none)) else (bif Nat.ble 72 pc then (bif Nat.beq pc 72 then some (.getfield 38, 1, 3, 10066, none, none, []) else none) else (bif Nat.beq pc 71 then some (.aload_n 0, 0, 0, 0, none, none, []) else none)))) else (bif Nat.ble 63 pc then (bif Nat.ble 67 pc then (bif Nat.ble 68 pc then (bif Nat.beq pc 68 then some (.goto 16, 84, 0, 0, none, some [0, 1, 2, 3], []) else none) else (bif Nat.beq pc 67 then some (.iconst 0, 0, 0, 0, none, none, []) else none)) else (bif Nat.ble 64 pc then (bif Nat.beq pc 64 then some (.if_icmp .ne 7, 71, 0, 0, none, some [0, 1, 2, 3, 4], []) else none) else (bif Nat.beq pc 63 then some (.iconst (-1), 0, 0, 0, none, none, []) else none))) else (bif Nat.ble 60 pc then (bif Nat.ble 61 pc then (bif Nat.beq pc 61 then some (.iload 4, 0, 0, 0, none, none, []) else none) else (bif Nat.beq pc 60 then some (.iconst 4, 0, 0, 0, none, none, []) else none)) else (bif Nat.ble 57 pc then (bif Nat.beq pc 57 then some (.getfield 31, 1, 6, 10069, none, none, []) else none) else (bif Nat.beq pc 56 then some (.aload_n 0, 0, 0, 0, none, none, []) else none)))))) else (bif Nat.ble 27 pc then (bif Nat.ble 42 pc then (bif Nat.ble 49 pc then (bif Nat.ble 53 pc then (bif Nat.ble 54 pc then (bif Nat.ble 55 pc then (bif Nat.beq pc 55 then some (.iastore, 0, 0, 0, none, none, []) else none) else (bif Nat.beq pc 54 then some (.iload_n 3, 0, 0, 0, none, none, []) else none)) else (bif Nat.beq pc 53 then some (.iconst 3, 0, 0, 0, none, none, []) else none)) else (bif Nat.ble 50 pc then (bif Nat.beq pc 50 then some (.getfield 31, 1, 6, 10069, none, none, []) else none) else (bif Nat.beq pc 49 then some (.aload_n 0, 0, 0, 0, none, none, []) else none))) else (bif Nat.ble 46 pc then (bif Nat.ble 48 pc then (bif Nat.beq pc 48 then some (.iastore, 0, 0, 0, none, none, []) else none) else (bif Nat.beq pc 46 then some (.iload 5, 0, 0, 0, none, none, []) else none)) else (bif Nat.ble 45 pc then (bif Nat.beq pc 45 then some (.iconst 2, 0, 0, 0, none, none, []) else none) else (bif Nat.beq pc 42 then some (.getfield 31, 1, 6, 10069, none, none, []) else none)))) else (bif Nat.ble 37 pc then (bif Nat.ble 40 pc then (bif Nat.ble 41 pc then (bif Nat.beq pc 41 then some (.aload_n 0, 0, 0, 0, none, none, []) else none) else (bif Nat.beq pc 40 then some (.iastore, 0, 0, 0, none, none, []) else none)) else (bif Nat.ble 39 pc then (bif Nat.beq pc 39 then some (.iaload, 0, 0, 0, some [0, 1, 2, 3, 4, 5], none, []) else none) else (bif Nat.beq pc 37 then some (.iload 4, 0, 0, 0, none, none, []) else none))) else (bif Nat.ble 31 pc then (bif Nat.ble 34 pc then (bif Nat.beq pc 34 then some (.getfield 67, 3, 9, 61, none, none, []) else none) else (bif Nat.beq pc 31 then some (.getfield 38, 1, 3, 10066, none, none, []) else none)) else (bif Nat.ble 30 pc then (bif Nat.beq pc 30 then some (.aload_n 0, 0, 0, 0, none, none, []) else none) else (bif Nat.beq pc 27 then some (.goto 13, 40, 0, 0, none, some [0, 1, 2, 3, 4, 5], []) else none))))) else (bif Nat.ble 14 pc then (bif Nat.ble 20 pc then (bif Nat.ble 23 pc then (bif Nat.ble 26 pc then (bif Nat.beq pc 26 then some (.iconst 0, 0, 0, 0, none, none, []) else none) else (bif Nat.beq pc 23 then some (.if_icmp .ne 7, 30, 0, 0, none, some [0, 1, 2, 3, 4, 5], []) else none)) else (bif Nat.ble 22 pc then (bif Nat.beq pc 22 then some (.iconst (-1), 0, 0, 0, none, none, []) else none) else (bif Nat.beq pc 20 then some (.iload 4, 0, 0, 0, none, none, []) else none))) else (bif Nat.ble 16 pc then (bif Nat.ble 19 pc then (bif Nat.beq pc 19 then some (.iconst 1, 0, 0, 0, none, none, []) else none) else (bif Nat.beq pc 16 then some (.getfield 31, 1, 6, 10069, none, none, []) else none)) else (bif Nat.ble 15 pc then (bif Nat.beq pc 15 then some (.aload_n 0, 0, 0, 0, none, none, []) else none) else (bif Nat.beq pc 14 then some (.iastore, 0, 0, 0, none, none, []) else none)))) else (bif Nat.ble 6 pc then (bif Nat.ble 12 pc then (bif Nat.ble 13 pc then (bif Nat.beq pc 13 then some (.iaload, 0, 0, 0, none, none, []) else none) else (bif Nat.beq pc 12 then some (.iload_n 3, 0, 0, 0, none, none, []) else none)) else (bif Nat.ble 9 pc then (bif Nat.beq pc 9 then some (.getfield 62, 3, 6, 53, none, none, []) else none) else (bif Nat.beq pc 6 then some (.getfield 38, 1, 3, 10066, none, none, []) else none))) else (bif Nat.ble 4 pc then (bif Nat.ble 5 pc then (bif Nat.beq pc 5 then some (.aload_n 0, 0, 0, 0, none, none, []) else none) else (bif Nat.beq pc 4 then some (.iconst 0, 0, 0, 0, none, none, []) else none)) else (bif Nat.ble 1 pc then (bif Nat.beq pc 1 then some (.getfield 31, 1, 6, 10069, none, none, []) else none) else (bif Nat.beq pc 0 then some (.aload_n 0, 0, 0, 0, none, none, []) else none))))))
abbrev k_Law_sawing : Nat := 7
noncomputable def tb_7 (pc : Nat) : Option am_I := bif Nat.ble 10 pc then (bif Nat.ble 13 pc then (bif Nat.ble 14 pc then (bif Nat.ble 17 pc then (bif Nat.beq pc 17 then some (.ireturn, 0, 0, 0, none, none, []) else none) else (bif Nat.beq pc 14 then some (.invokevirtual 97, 6, 0, 20004, none, none, []) else none)) else (bif Nat.beq pc 13 then some (.iconst 0, 0, 0, 0, none, none, []) else none)) else (bif Nat.ble 11 pc then (bif Nat.ble 12 pc then (bif Nat.beq pc 12 then some (.iload_n 2, 0, 0, 0, none, none, []) else none) else (bif Nat.beq pc 11 then some (.iaload, 0, 0, 0, none, none, []) else none)) else (bif Nat.beq pc 10 then some (.iload_n 2, 0, 0, 0, none, none, []) else none))) else (bif Nat.ble 3 pc then (bif Nat.ble 4 pc then (bif Nat.ble 7 pc then (bif Nat.beq pc 7 then some (.getfield 94, 3, 8, 58, none, none, []) else none) else (bif Nat.beq pc 4 then some (.getfield 38, 1, 3, 10066, none, none, []) else none)) else (bif Nat.beq pc 3 then some (.aload_n 0, 0, 0, 0, none, none, []) else none)) else (bif Nat.ble 1 pc then (bif Nat.ble 2 pc then (bif Nat.beq pc 2 then some (.iconst 1, 0, 0, 0, none, none, []) else none) else (bif Nat.beq pc 1 then some (.iload_n 1, 0, 0, 0, none, none, []) else none)) else (bif Nat.beq pc 0 then some (.aload_n 0, 0, 0, 0, none, none, []) else none)))
abbrev k_Law_worth : Nat := 8
noncomputable def tb_8 (pc : Nat) : Option am_I := bif Nat.ble 101 pc then (bif Nat.ble 150 pc then (bif Nat.ble 173 pc then (bif Nat.ble 184 pc then (bif Nat.ble 192 pc then (bif Nat.ble 196 pc then (bif Nat.ble 197 pc then (bif Nat.beq pc 197 then some (.ireturn, 0, 0, 0, none, none, []) else none) else (bif Nat.beq pc 196 then some (.iaload, 0, 0, 0, none, none, []) else none)) else (bif Nat.ble 195 pc then (bif Nat.beq pc 195 then some (.iconst 0, 0, 0, 0, none, none, []) else none) else (bif Nat.beq pc 192 then some (.getfield 35, 1, 7, 10070, none, none, []) else none))) else (bif Nat.ble 188 pc then (bif Nat.ble 191 pc then (bif Nat.beq pc 191 then some (.aload_n 0, 0, 0, 0, none, none, []) else none) else (bif Nat.beq pc 188 then some (.goto (-166), 22, 0, 0, none, some [0, 1, 2, 3, 4], []) else none)) else (bif Nat.ble 185 pc then (bif Nat.beq pc 185 then some (.iinc 4 1, 0, 0, 0, none, none, []) else none) else (bif Nat.beq pc 184 then some (.iastore, 0, 0, 0, some [0, 1, 2, 3, 4], none, []) else none)))) else (bif Nat.ble 176 pc then (bif Nat.ble 180 pc then (bif Nat.ble 181 pc then (bif Nat.beq pc 181 then some (.invokestatic 111, 9, 0, 20016, none, none, []) else none) else (bif Nat.beq pc 180 then some (.iaload, 0, 0, 0, none, none, []) else none)) else (bif Nat.ble 179 pc then (bif Nat.beq pc 179 then some (.iload_n 3, 0, 0, 0, none, none, []) else none) else (bif Nat.beq pc 176 then some (.getfield 35, 1, 7, 10070, none, none, []) else none))) else (bif Nat.ble 174 pc then (bif Nat.ble 175 pc then (bif Nat.beq pc 175 then some (.aload_n 0, 0, 0, 0, none, none, []) else none) else (bif Nat.beq pc 174 then some (.iaload, 0, 0, 0, none, none, []) else none)) else (bif Nat.beq pc 173 then some (.isub, 0, 0, 0, none, none, []) else none)))) else (bif Nat.ble 163 pc then (bif Nat.ble 167 pc then (bif Nat.ble 171 pc then (bif Nat.ble 172 pc then (bif Nat.beq pc 172 then some (.iconst 1, 0, 0, 0, none, none, []) else none) else (bif Nat.beq pc 171 then some (.iload_n 3, 0, 0, 0, none, none, []) else none)) else (bif Nat.ble 168 pc then (bif Nat.beq pc 168 then some (.getfield 35, 1, 7, 10070, none, none, []) else none) else (bif Nat.beq pc 167 then some (.aload_n 0, 0, 0, 0, none, none, []) else none))) else (bif Nat.ble 164 pc then (bif Nat.ble 165 pc then (bif Nat.beq pc 165 then some (.iload 5, 0, 0, 0, none, none, []) else none) else (bif Nat.beq pc 164 then some (.isub, 0, 0, 0, none, none, []) else none)) else (bif Nat.beq pc 163 then some (.iconst 1, 0, 0, 0, none, none, []) else none))) else (bif Nat.ble 155 pc then (bif Nat.ble 159 pc then (bif Nat.ble 162 pc then (bif Nat.beq pc 162 then some (.iload_n 3, 0, 0, 0, none, none, []) else none) else (bif Nat.beq pc 159 then some (.getfield 35, 1, 7, 10070, none, none, []) else none)) else (bif Nat.ble 158 pc then (bif Nat.beq pc 158 then some (.aload_n 0, 0, 0, 0, none, none, []) else none) else (bif Nat.beq pc 155 then some (.iinc 3 (-1), 0, 0, 0, none, none, []) else none))) else (bif Nat.ble 151 pc then (bif Nat.ble 152 pc then (bif Nat.beq pc 152 then some (.if_icmp .le 33, 185, 0, 0, none, some [0, 1, 2, 3, 4], []) else none) else (bif Nat.beq pc 151 then some (.iconst 1, 0, 0, 0, none, none, []) else none)) else (bif Nat.beq pc 150 then some (.iload_n 3, 0, 0, 0, none, none, []) else none))))) else (bif Nat.ble 123 pc then (bif Nat.ble 138 pc then (bif Nat.ble 144 pc then (bif Nat.ble 146 pc then (bif Nat.ble 147 pc then (bif Nat.beq pc 147 then some (.goto 38, 185, 0, 0, none, some [0, 1, 2, 3, 4], []) else none) else (bif Nat.beq pc 146 then some (.iastore, 0, 0, 0, none, none, []) else none)) else (bif Nat.ble 145 pc then (bif Nat.beq pc 145 then some (.ineg, 0, 0, 0, some [0, 1, 2, 3, 4], none, []) else none) else (bif Nat.beq pc 144 then some (.iaload, 0, 0, 0, none, none, []) else none))) else (bif Nat.ble 142 pc then (bif Nat.ble 143 pc then (bif Nat.beq pc 143 then some (.isub, 0, 0, 0, none, none, []) else none) else (bif Nat.beq pc 142 then some (.iconst 1, 0, 0, 0, none, none, []) else none)) else (bif Nat.ble 141 pc then (bif Nat.beq pc 141 then some (.iload_n 3, 0, 0, 0, none, none, []) else none) else (bif Nat.beq pc 138 then some (.getfield 35, 1, 7, 10070, none, none, []) else none)))) else (bif Nat.ble 130 pc then (bif Nat.ble 134 pc then (bif Nat.ble 137 pc then (bif Nat.beq pc 137 then some (.aload_n 0, 0, 0, 0, none, none, []) else none) else (bif Nat.beq pc 134 then some (.goto 12, 146, 0, 0, none, some [0, 1, 2, 3, 4], []) else none)) else (bif Nat.ble 131 pc then (bif Nat.beq pc 131 then some (.invokestatic 107, 10, 0, 20013, none, none, []) else none) else (bif Nat.beq pc 130 then some (.iconst 0, 0, 0, 0, some [0, 1, 2, 3, 4], none, []) else none))) else (bif Nat.ble 126 pc then (bif Nat.ble 127 pc then (bif Nat.beq pc 127 then some (.goto 4, 131, 0, 0, none, some [0, 1, 2, 3, 4], []) else none) else (bif Nat.beq pc 126 then some (.iconst 1, 0, 0, 0, none, none, []) else none)) else (bif Nat.beq pc 123 then some (.ifCond .ne 7, 130, 0, 0, none, some [0, 1, 2, 3, 4], []) else none)))) else (bif Nat.ble 112 pc then (bif Nat.ble 119 pc then (bif Nat.ble 121 pc then (bif Nat.ble 122 pc then (bif Nat.beq pc 122 then some (.iaload, 0, 0, 0, none, none, []) else none) else (bif Nat.beq pc 121 then some (.isub, 0, 0, 0, none, none, []) else none)) else (bif Nat.ble 120 pc then (bif Nat.beq pc 120 then some (.iconst 1, 0, 0, 0, none, none, []) else none) else (bif Nat.beq pc 119 then some (.iload_n 3, 0, 0, 0, none, none, []) else none))) else (bif Nat.ble 115 pc then (bif Nat.ble 116 pc then (bif Nat.beq pc 116 then some (.getfield 35, 1, 7, 10070, none, none, []) else none) else (bif Nat.beq pc 115 then some (.aload_n 0, 0, 0, 0, none, none, []) else none)) else (bif Nat.beq pc 112 then some (.if_icmp .ne 25, 137, 0, 0, none, some [0, 1, 2, 3, 4], []) else none))) else (bif Nat.ble 106 pc then (bif Nat.ble 108 pc then (bif Nat.ble 110 pc then (bif Nat.beq pc 110 then some (.bipush (-8), 0, 0, 0, none, none, []) else none) else (bif Nat.beq pc 108 then some (.iload 5, 0, 0, 0, none, none, []) else none)) else (bif Nat.ble 107 pc then (bif Nat.beq pc 107 then some (.isub, 0, 0, 0, none, none, []) else none) else (bif Nat.beq pc 106 then some (.iconst 1, 0, 0, 0, none, none, []) else none))) else (bif Nat.ble 102 pc then (bif Nat.ble 105 pc then (bif Nat.beq pc 105 then some (.iload_n 3, 0, 0, 0, none, none, []) else none) else (bif Nat.beq pc 102 then some (.getfield 35, 1, 7, 10070, none, none, []) else none)) else (bif Nat.beq pc 101 then some (.aload_n 0, 0, 0, 0, none, none, []) else none)))))) else (bif Nat.ble 43 pc then (bif Nat.ble 71 pc then (bif Nat.ble 83 pc then (bif Nat.ble 92 pc then (bif Nat.ble 97 pc then (bif Nat.ble 98 pc then (bif Nat.beq pc 98 then some (.ifCond .le 87, 185, 0, 0, none, some [0, 1, 2, 3, 4], []) else none) else (bif Nat.beq pc 97 then some (.iload_n 3, 0, 0, 0, none, none, []) else none)) else (bif Nat.ble 94 pc then (bif Nat.beq pc 94 then some (.if_icmp .lt 56, 150, 0, 0, none, some [0, 1, 2, 3, 4, 5], []) else none) else (bif Nat.beq pc 92 then some (.bipush (-8), 0, 0, 0, none, none, []) else none))) else (bif Nat.ble 87 pc then (bif Nat.ble 90 pc then (bif Nat.beq pc 90 then some (.iload 5, 0, 0, 0, none, none, []) else none) else (bif Nat.beq pc 87 then some (.goto 98, 185, 0, 0, none, some [0, 1, 2, 3, 4], []) else none)) else (bif Nat.ble 84 pc then (bif Nat.beq pc 84 then some (.iinc 3 1, 0, 0, 0, none, none, []) else none) else (bif Nat.beq pc 83 then some (.iastore, 0, 0, 0, none, none, []) else none)))) else (bif Nat.ble 78 pc then (bif Nat.ble 81 pc then (bif Nat.ble 82 pc then (bif Nat.beq pc 82 then some (.iaload, 0, 0, 0, some [0, 1, 2, 3, 4], none, []) else none) else (bif Nat.beq pc 81 then some (.isub, 0, 0, 0, none, none, []) else none)) else (bif Nat.ble 79 pc then (bif Nat.beq pc 79 then some (.iload 5, 0, 0, 0, none, none, []) else none) else (bif Nat.beq pc 78 then some (.iconst (-1), 0, 0, 0, none, none, []) else none))) else (bif Nat.ble 74 pc then (bif Nat.ble 75 pc then (bif Nat.beq pc 75 then some (.getfield 31, 1, 6, 10069, none, none, []) else none) else (bif Nat.beq pc 74 then some (.aload_n 0, 0, 0, 0, none, none, []) else none)) else (bif Nat.beq pc 71 then some (.goto 12, 83, 0, 0, none, some [0, 1, 2, 3, 4], []) else none)))) else (bif Nat.ble 56 pc then (bif Nat.ble 63 pc then (bif Nat.ble 66 pc then (bif Nat.ble 69 pc then (bif Nat.beq pc 69 then some (.iload 5, 0, 0, 0, none, none, []) else none) else (bif Nat.beq pc 66 then some (.ifCond .lt 8, 74, 0, 0, none, some [0, 1, 2, 3, 4, 5], []) else none)) else (bif Nat.ble 64 pc then (bif Nat.beq pc 64 then some (.iload 5, 0, 0, 0, none, none, []) else none) else (bif Nat.beq pc 63 then some (.iload_n 3, 0, 0, 0, none, none, []) else none))) else (bif Nat.ble 59 pc then (bif Nat.ble 60 pc then (bif Nat.beq pc 60 then some (.getfield 35, 1, 7, 10070, none, none, []) else none) else (bif Nat.beq pc 59 then some (.aload_n 0, 0, 0, 0, none, none, []) else none)) else (bif Nat.beq pc 56 then some (.if_icmp .ge 129, 185, 0, 0, none, some [0, 1, 2, 3, 4], []) else none))) else (bif Nat.ble 48 pc then (bif Nat.ble 53 pc then (bif Nat.ble 54 pc then (bif Nat.beq pc 54 then some (.bipush 64, 0, 0, 0, none, none, []) else none) else (bif Nat.beq pc 53 then some (.iload_n 3, 0, 0, 0, none, none, []) else none)) else (bif Nat.ble 50 pc then (bif Nat.beq pc 50 then some (.if_icmp .le 40, 90, 0, 0, none, some [0, 1, 2, 3, 4, 5], []) else none) else (bif Nat.beq pc 48 then some (.bipush (-7), 0, 0, 0, none, none, []) else none))) else (bif Nat.ble 44 pc then (bif Nat.ble 46 pc then (bif Nat.beq pc 46 then some (.iload 5, 0, 0, 0, none, none, []) else none) else (bif Nat.beq pc 44 then some (.istore 5, 0, 0, 0, none, none, []) else none)) else (bif Nat.beq pc 43 then some (.iaload, 0, 0, 0, none, none, []) else none))))) else (bif Nat.ble 20 pc then (bif Nat.ble 31 pc then (bif Nat.ble 36 pc then (bif Nat.ble 40 pc then (bif Nat.ble 41 pc then (bif Nat.beq pc 41 then some (.iload 4, 0, 0, 0, none, none, []) else none) else (bif Nat.beq pc 40 then some (.aaload, 0, 0, 0, none, none, []) else none)) else (bif Nat.ble 39 pc then (bif Nat.beq pc 39 then some (.iload_n 1, 0, 0, 0, none, none, []) else none) else (bif Nat.beq pc 36 then some (.getfield 25, 1, 4, 10067, none, none, []) else none))) else (bif Nat.ble 32 pc then (bif Nat.ble 35 pc then (bif Nat.beq pc 35 then some (.aload_n 0, 0, 0, 0, none, none, []) else none) else (bif Nat.beq pc 32 then some (.if_icmp .ge 159, 191, 0, 0, none, some [0], []) else none)) else (bif Nat.beq pc 31 then some (.iaload, 0, 0, 0, none, none, []) else none))) else (bif Nat.ble 25 pc then (bif Nat.ble 29 pc then (bif Nat.ble 30 pc then (bif Nat.beq pc 30 then some (.iload_n 2, 0, 0, 0, none, none, []) else none) else (bif Nat.beq pc 29 then some (.aaload, 0, 0, 0, none, none, []) else none)) else (bif Nat.ble 28 pc then (bif Nat.beq pc 28 then some (.iload_n 1, 0, 0, 0, none, none, []) else none) else (bif Nat.beq pc 25 then some (.getfield 28, 1, 5, 10068, none, none, []) else none))) else (bif Nat.ble 22 pc then (bif Nat.ble 24 pc then (bif Nat.beq pc 24 then some (.aload_n 0, 0, 0, 0, none, none, []) else none) else (bif Nat.beq pc 22 then some (.iload 4, 0, 0, 0, none, none, []) else none)) else (bif Nat.beq pc 20 then some (.istore 4, 0, 0, 0, some [0, 1, 2, 3, 4], none, []) else none)))) else (bif Nat.ble 11 pc then (bif Nat.ble 16 pc then (bif Nat.ble 18 pc then (bif Nat.ble 19 pc then (bif Nat.beq pc 19 then some (.iaload, 0, 0, 0, some [0, 1, 2, 3], none, []) else none) else (bif Nat.beq pc 18 then some (.isub, 0, 0, 0, none, none, []) else none)) else (bif Nat.ble 17 pc then (bif Nat.beq pc 17 then some (.iconst 1, 0, 0, 0, none, none, []) else none) else (bif Nat.beq pc 16 then some (.iload_n 2, 0, 0, 0, none, none, []) else none))) else (bif Nat.ble 14 pc then (bif Nat.ble 15 pc then (bif Nat.beq pc 15 then some (.aaload, 0, 0, 0, none, none, []) else none) else (bif Nat.beq pc 14 then some (.iload_n 1, 0, 0, 0, none, none, []) else none)) else (bif Nat.beq pc 11 then some (.getfield 28, 1, 5, 10068, none, none, []) else none))) else (bif Nat.ble 3 pc then (bif Nat.ble 7 pc then (bif Nat.ble 10 pc then (bif Nat.beq pc 10 then some (.aload_n 0, 0, 0, 0, none, none, []) else none) else (bif Nat.beq pc 7 then some (.goto 13, 20, 0, 0, none, some [0, 1, 2, 3], []) else none)) else (bif Nat.ble 6 pc then (bif Nat.beq pc 6 then some (.iconst 0, 0, 0, 0, none, none, []) else none) else (bif Nat.beq pc 3 then some (.ifCond .ne 7, 10, 0, 0, none, some [0, 1, 2, 3], []) else none))) else (bif Nat.ble 1 pc then (bif Nat.ble 2 pc then (bif Nat.beq pc 2 then some (.iload_n 2, 0, 0, 0, none, none, []) else none) else (bif Nat.beq pc 1 then some (.istore_n 3, 0, 0, 0, none, none, []) else none)) else (bif Nat.beq pc 0 then some (.iconst 0, 0, 0, 0, none, none, []) else none))))))
abbrev k_Law_joined : Nat := 9
noncomputable def tb_9 (pc : Nat) : Option am_I := bif Nat.ble 68 pc then (bif Nat.ble 92 pc then (bif Nat.ble 102 pc then (bif Nat.ble 109 pc then (bif Nat.ble 110 pc then (bif Nat.ble 113 pc then (bif Nat.beq pc 113 then some (.ireturn, 0, 0, 0, none, none, []) else none) else (bif Nat.beq pc 110 then some (.invokestatic 107, 10, 0, 20013, none, none, []) else none)) else (bif Nat.beq pc 109 then some (.iconst 0, 0, 0, 0, some [], none, []) else none)) else (bif Nat.ble 105 pc then (bif Nat.ble 106 pc then (bif Nat.beq pc 106 then some (.goto 4, 110, 0, 0, none, some [], []) else none) else (bif Nat.beq pc 105 then some (.iconst 1, 0, 0, 0, none, none, []) else none)) else (bif Nat.beq pc 102 then some (.ifCond .eq 7, 109, 0, 0, some [], some [], []) else none))) else (bif Nat.ble 97 pc then (bif Nat.ble 98 pc then (bif Nat.ble 101 pc then (bif Nat.beq pc 101 then some (.iload_n 2, 0, 0, 0, none, none, []) else none) else (bif Nat.beq pc 98 then some (.ifCond .ne 7, 105, 0, 0, none, some [], []) else none)) else (bif Nat.beq pc 97 then some (.iload_n 1, 0, 0, 0, none, none, []) else none)) else (bif Nat.ble 93 pc then (bif Nat.ble 96 pc then (bif Nat.beq pc 96 then some (.ireturn, 0, 0, 0, none, none, []) else none) else (bif Nat.beq pc 93 then some (.invokestatic 107, 10, 0, 20013, none, none, []) else none)) else (bif Nat.beq pc 92 then some (.iconst 0, 0, 0, 0, some [], none, []) else none)))) else (bif Nat.ble 80 pc then (bif Nat.ble 85 pc then (bif Nat.ble 88 pc then (bif Nat.ble 89 pc then (bif Nat.beq pc 89 then some (.goto 4, 93, 0, 0, none, some [], []) else none) else (bif Nat.beq pc 88 then some (.iconst 1, 0, 0, 0, none, none, []) else none)) else (bif Nat.beq pc 85 then some (.ifCond .eq 7, 92, 0, 0, none, some [], []) else none)) else (bif Nat.ble 81 pc then (bif Nat.ble 84 pc then (bif Nat.beq pc 84 then some (.iload_n 2, 0, 0, 0, none, none, []) else none) else (bif Nat.beq pc 81 then some (.ifCond .eq 11, 92, 0, 0, none, some [], []) else none)) else (bif Nat.beq pc 80 then some (.iload_n 1, 0, 0, 0, none, none, []) else none))) else (bif Nat.ble 75 pc then (bif Nat.ble 76 pc then (bif Nat.ble 79 pc then (bif Nat.beq pc 79 then some (.ireturn, 0, 0, 0, none, none, []) else none) else (bif Nat.beq pc 76 then some (.invokestatic 107, 10, 0, 20013, none, none, []) else none)) else (bif Nat.beq pc 75 then some (.iconst 0, 0, 0, 0, some [], none, []) else none)) else (bif Nat.ble 71 pc then (bif Nat.ble 72 pc then (bif Nat.beq pc 72 then some (.goto 4, 76, 0, 0, none, some [], []) else none) else (bif Nat.beq pc 71 then some (.iconst 1, 0, 0, 0, none, none, []) else none)) else (bif Nat.beq pc 68 then some (.if_icmp .ne 7, 75, 0, 0, none, some [], []) else none))))) else (bif Nat.ble 50 pc then (bif Nat.ble 58 pc then (bif Nat.ble 65 pc then (bif Nat.ble 66 pc then (bif Nat.ble 67 pc then (bif Nat.beq pc 67 then some (.iload_n 2, 0, 0, 0, none, none, []) else none) else (bif Nat.beq pc 66 then some (.iload_n 1, 0, 0, 0, none, none, []) else none)) else (bif Nat.beq pc 65 then some (.ireturn, 0, 0, 0, none, none, []) else none)) else (bif Nat.ble 61 pc then (bif Nat.ble 62 pc then (bif Nat.beq pc 62 then some (.invokestatic 107, 10, 0, 20013, none, none, []) else none) else (bif Nat.beq pc 61 then some (.iconst 0, 0, 0, 0, some [], none, []) else none)) else (bif Nat.beq pc 58 then some (.goto 4, 62, 0, 0, none, some [], []) else none))) else (bif Nat.ble 53 pc then (bif Nat.ble 54 pc then (bif Nat.ble 57 pc then (bif Nat.beq pc 57 then some (.iconst 1, 0, 0, 0, none, none, []) else none) else (bif Nat.beq pc 54 then some (.if_icmp .ge 7, 61, 0, 0, none, some [], []) else none)) else (bif Nat.beq pc 53 then some (.iload_n 2, 0, 0, 0, none, none, []) else none)) else (bif Nat.ble 51 pc then (bif Nat.ble 52 pc then (bif Nat.beq pc 52 then some (.iload_n 1, 0, 0, 0, none, none, []) else none) else (bif Nat.beq pc 51 then some (.ireturn, 0, 0, 0, none, none, []) else none)) else (bif Nat.beq pc 50 then some (.isub, 0, 0, 0, none, none, []) else none)))) else (bif Nat.ble 44 pc then (bif Nat.ble 47 pc then (bif Nat.ble 48 pc then (bif Nat.ble 49 pc then (bif Nat.beq pc 49 then some (.iload_n 2, 0, 0, 0, none, none, []) else none) else (bif Nat.beq pc 48 then some (.iload_n 1, 0, 0, 0, none, none, []) else none)) else (bif Nat.beq pc 47 then some (.ireturn, 0, 0, 0, none, none, []) else none)) else (bif Nat.ble 45 pc then (bif Nat.ble 46 pc then (bif Nat.beq pc 46 then some (.iadd, 0, 0, 0, none, none, []) else none) else (bif Nat.beq pc 45 then some (.iload_n 2, 0, 0, 0, none, none, []) else none)) else (bif Nat.beq pc 44 then some (.iload_n 1, 0, 0, 0, none, none, []) else none))) else (bif Nat.ble 41 pc then (bif Nat.ble 42 pc then (bif Nat.ble 43 pc then (bif Nat.beq pc 43 then some (.ireturn, 0, 0, 0, none, none, []) else none) else (bif Nat.beq pc 42 then some (.imul, 0, 0, 0, none, none, []) else none)) else (bif Nat.beq pc 41 then some (.iload_n 2, 0, 0, 0, none, none, []) else none)) else (bif Nat.ble 1 pc then (bif Nat.ble 40 pc then (bif Nat.beq pc 40 then some (.iload_n 1, 0, 0, 0, none, none, []) else none) else (bif Nat.beq pc 1 then some (.tableswitch 96 (-14) (-9) #[79, 65, 51, 47, 43, 39], 0, 0, 0, none, none, [(97, [1, 2]), (80, [1, 2]), (66, [1, 2]), (52, [1, 2]), (48, [1, 2]), (44, [1, 2]), (40, [1, 2])]) else none)) else (bif Nat.beq pc 0 then some (.iload_n 0, 0, 0, 0, none, none, []) else none)))))
abbrev k_Law_truth : Nat := 10
noncomputable def tb_10 (pc : Nat) : Option am_I := bif Nat.ble 5 pc then (bif Nat.ble 8 pc then (bif Nat.ble 9 pc then (bif Nat.beq pc 9 then some (.ireturn, 0, 0, 0, none, none, []) else none) else (bif Nat.beq pc 8 then some (.iconst 0, 0, 0, 0, some [], none, []) else none)) else (bif Nat.beq pc 5 then some (.goto 4, 9, 0, 0, none, some [], []) else none)) else (bif Nat.ble 1 pc then (bif Nat.ble 4 pc then (bif Nat.beq pc 4 then some (.iconst 1, 0, 0, 0, none, none, []) else none) else (bif Nat.beq pc 1 then some (.ifCond .eq 7, 8, 0, 0, none, some [], []) else none)) else (bif Nat.beq pc 0 then some (.iload_n 0, 0, 0, 0, none, none, []) else none))
abbrev k_Ord_init : Nat := 11
noncomputable def tb_11 (pc : Nat) : Option am_I := bif Nat.ble 19 pc then (bif Nat.ble 27 pc then (bif Nat.ble 31 pc then (bif Nat.ble 32 pc then (bif Nat.ble 35 pc then (bif Nat.beq pc 35 then some (.return_, 0, 0, 0, none, none, []) else none) else (bif Nat.beq pc 32 then some (.putfield 21, 2, 0, 10095, none, none, []) else none)) else (bif Nat.beq pc 31 then some (.aload_n 1, 0, 0, 0, none, none, []) else none)) else (bif Nat.ble 30 pc then (bif Nat.beq pc 30 then some (.aload_n 0, 0, 0, 0, none, none, []) else none) else (bif Nat.beq pc 27 then some (.putfield 18, 2, 3, 10098, none, none, []) else none))) else (bif Nat.ble 23 pc then (bif Nat.ble 25 pc then (bif Nat.beq pc 25 then some (.newarray .int, 0, 0, 0, none, none, []) else none) else (bif Nat.beq pc 23 then some (.bipush 8, 0, 0, 0, none, none, []) else none)) else (bif Nat.ble 22 pc then (bif Nat.beq pc 22 then some (.aload_n 0, 0, 0, 0, none, none, []) else none) else (bif Nat.beq pc 19 then some (.putfield 13, 2, 2, 10097, none, none, []) else none)))) else (bif Nat.ble 8 pc then (bif Nat.ble 13 pc then (bif Nat.ble 14 pc then (bif Nat.ble 17 pc then (bif Nat.beq pc 17 then some (.newarray .int, 0, 0, 0, none, none, []) else none) else (bif Nat.beq pc 14 then some (.sipush 256, 0, 0, 0, none, none, []) else none)) else (bif Nat.beq pc 13 then some (.aload_n 0, 0, 0, 0, none, none, []) else none)) else (bif Nat.ble 10 pc then (bif Nat.beq pc 10 then some (.putfield 9, 2, 1, 10096, none, none, []) else none) else (bif Nat.beq pc 8 then some (.newarray .int, 0, 0, 0, none, none, []) else none))) else (bif Nat.ble 4 pc then (bif Nat.ble 5 pc then (bif Nat.beq pc 5 then some (.sipush 256, 0, 0, 0, none, none, []) else none) else (bif Nat.beq pc 4 then some (.aload_n 0, 0, 0, 0, none, none, []) else none)) else (bif Nat.ble 1 pc then (bif Nat.beq pc 1 then some (.invokespecial 1, 9999, 0, 10094, none, none, []) else none) else (bif Nat.beq pc 0 then some (.aload_n 0, 0, 0, 0, none, none, []) else none))))
abbrev k_Ord_countAll : Nat := 12
noncomputable def tb_12 (pc : Nat) : Option am_I := bif Nat.ble 72 pc then (bif Nat.ble 111 pc then (bif Nat.ble 123 pc then (bif Nat.ble 130 pc then (bif Nat.ble 136 pc then (bif Nat.ble 139 pc then (bif Nat.ble 142 pc then (bif Nat.beq pc 142 then some (.return_, 0, 0, 0, none, none, []) else none) else (bif Nat.beq pc 139 then some (.goto (-96), 43, 0, 0, none, some [0, 1], []) else none)) else (bif Nat.beq pc 136 then some (.iinc 1 1, 0, 0, 0, none, none, []) else none)) else (bif Nat.ble 133 pc then (bif Nat.beq pc 133 then some (.goto (-41), 92, 0, 0, none, some [0, 1, 2, 3], []) else none) else (bif Nat.beq pc 130 then some (.iinc 3 1, 0, 0, 0, none, none, []) else none))) else (bif Nat.ble 127 pc then (bif Nat.ble 128 pc then (bif Nat.ble 129 pc then (bif Nat.beq pc 129 then some (.iastore, 0, 0, 0, some [0, 1, 2, 3], none, []) else none) else (bif Nat.beq pc 128 then some (.iadd, 0, 0, 0, none, none, []) else none)) else (bif Nat.beq pc 127 then some (.iaload, 0, 0, 0, none, none, []) else none)) else (bif Nat.ble 126 pc then (bif Nat.beq pc 126 then some (.iload_n 1, 0, 0, 0, none, none, []) else none) else (bif Nat.beq pc 123 then some (.getfield 9, 2, 1, 10096, none, none, []) else none)))) else (bif Nat.ble 118 pc then (bif Nat.ble 120 pc then (bif Nat.ble 121 pc then (bif Nat.ble 122 pc then (bif Nat.beq pc 122 then some (.aload_n 0, 0, 0, 0, none, none, []) else none) else (bif Nat.beq pc 121 then some (.iaload, 0, 0, 0, none, none, []) else none)) else (bif Nat.beq pc 120 then some (.dup2, 0, 0, 0, none, none, []) else none)) else (bif Nat.ble 119 pc then (bif Nat.beq pc 119 then some (.ior, 0, 0, 0, none, none, []) else none) else (bif Nat.beq pc 118 then some (.ishl, 0, 0, 0, none, none, []) else none))) else (bif Nat.ble 115 pc then (bif Nat.ble 116 pc then (bif Nat.ble 117 pc then (bif Nat.beq pc 117 then some (.iload_n 3, 0, 0, 0, none, none, []) else none) else (bif Nat.beq pc 116 then some (.iconst 1, 0, 0, 0, none, none, []) else none)) else (bif Nat.beq pc 115 then some (.iload_n 1, 0, 0, 0, none, none, []) else none)) else (bif Nat.ble 112 pc then (bif Nat.beq pc 112 then some (.getfield 9, 2, 1, 10096, none, none, []) else none) else (bif Nat.beq pc 111 then some (.aload_n 0, 0, 0, 0, none, none, []) else none))))) else (bif Nat.ble 91 pc then (bif Nat.ble 100 pc then (bif Nat.ble 104 pc then (bif Nat.ble 105 pc then (bif Nat.ble 108 pc then (bif Nat.beq pc 108 then some (.ifCond .eq 22, 130, 0, 0, none, some [0, 1, 2, 3], []) else none) else (bif Nat.beq pc 105 then some (.invokestatic 49, 64, 1, 20057, none, none, []) else none)) else (bif Nat.beq pc 104 then some (.iload_n 3, 0, 0, 0, none, none, []) else none)) else (bif Nat.ble 103 pc then (bif Nat.beq pc 103 then some (.iload_n 2, 0, 0, 0, none, none, []) else none) else (bif Nat.beq pc 100 then some (.if_icmp .ge 36, 136, 0, 0, none, some [0, 1], []) else none))) else (bif Nat.ble 93 pc then (bif Nat.ble 94 pc then (bif Nat.ble 97 pc then (bif Nat.beq pc 97 then some (.getfield 46, 3, 0, 38, none, none, []) else none) else (bif Nat.beq pc 94 then some (.getfield 21, 2, 0, 10095, none, none, []) else none)) else (bif Nat.beq pc 93 then some (.aload_n 0, 0, 0, 0, none, none, []) else none)) else (bif Nat.ble 92 pc then (bif Nat.beq pc 92 then some (.iload_n 3, 0, 0, 0, none, none, []) else none) else (bif Nat.beq pc 91 then some (.istore_n 3, 0, 0, 0, some [0, 1, 2, 3], none, []) else none)))) else (bif Nat.ble 82 pc then (bif Nat.ble 88 pc then (bif Nat.ble 89 pc then (bif Nat.ble 90 pc then (bif Nat.beq pc 90 then some (.iconst 0, 0, 0, 0, none, none, []) else none) else (bif Nat.beq pc 89 then some (.istore_n 2, 0, 0, 0, none, none, []) else none)) else (bif Nat.beq pc 88 then some (.iand, 0, 0, 0, none, none, []) else none)) else (bif Nat.ble 85 pc then (bif Nat.beq pc 85 then some (.getfield 43, 3, 4, 48, none, none, []) else none) else (bif Nat.beq pc 82 then some (.getfield 21, 2, 0, 10095, none, none, []) else none))) else (bif Nat.ble 78 pc then (bif Nat.ble 81 pc then (bif Nat.beq pc 81 then some (.aload_n 0, 0, 0, 0, none, none, []) else none) else (bif Nat.beq pc 78 then some (.invokevirtual 39, 30, 0, 20056, none, none, []) else none)) else (bif Nat.ble 75 pc then (bif Nat.beq pc 75 then some (.getfield 36, 3, 3, 46, none, none, []) else none) else (bif Nat.beq pc 72 then some (.getfield 21, 2, 0, 10095, none, none, []) else none)))))) else (bif Nat.ble 35 pc then (bif Nat.ble 54 pc then (bif Nat.ble 63 pc then (bif Nat.ble 67 pc then (bif Nat.ble 70 pc then (bif Nat.ble 71 pc then (bif Nat.beq pc 71 then some (.aload_n 0, 0, 0, 0, none, none, []) else none) else (bif Nat.beq pc 70 then some (.iload_n 1, 0, 0, 0, none, none, []) else none)) else (bif Nat.beq pc 67 then some (.getfield 21, 2, 0, 10095, none, none, []) else none)) else (bif Nat.ble 66 pc then (bif Nat.beq pc 66 then some (.aload_n 0, 0, 0, 0, none, none, []) else none) else (bif Nat.beq pc 63 then some (.goto 73, 136, 0, 0, none, some [0, 1], []) else none))) else (bif Nat.ble 58 pc then (bif Nat.ble 59 pc then (bif Nat.ble 60 pc then (bif Nat.beq pc 60 then some (.ifCond .ne 6, 66, 0, 0, none, some [0, 1], []) else none) else (bif Nat.beq pc 59 then some (.iaload, 0, 0, 0, none, none, []) else none)) else (bif Nat.beq pc 58 then some (.iload_n 1, 0, 0, 0, none, none, []) else none)) else (bif Nat.ble 55 pc then (bif Nat.beq pc 55 then some (.getfield 9, 2, 1, 10096, none, none, []) else none) else (bif Nat.beq pc 54 then some (.aload_n 0, 0, 0, 0, none, none, []) else none)))) else (bif Nat.ble 43 pc then (bif Nat.ble 45 pc then (bif Nat.ble 48 pc then (bif Nat.ble 51 pc then (bif Nat.beq pc 51 then some (.if_icmp .gt 91, 142, 0, 0, none, some [], []) else none) else (bif Nat.beq pc 48 then some (.invokevirtual 32, 21, 0, 20055, none, none, []) else none)) else (bif Nat.beq pc 45 then some (.getfield 21, 2, 0, 10095, none, none, []) else none)) else (bif Nat.ble 44 pc then (bif Nat.beq pc 44 then some (.aload_n 0, 0, 0, 0, none, none, []) else none) else (bif Nat.beq pc 43 then some (.iload_n 1, 0, 0, 0, none, none, []) else none))) else (bif Nat.ble 39 pc then (bif Nat.ble 42 pc then (bif Nat.beq pc 42 then some (.istore_n 1, 0, 0, 0, some [0, 1], none, []) else none) else (bif Nat.beq pc 39 then some (.getfield 28, 3, 1, 41, none, none, []) else none)) else (bif Nat.ble 36 pc then (bif Nat.beq pc 36 then some (.getfield 21, 2, 0, 10095, none, none, []) else none) else (bif Nat.beq pc 35 then some (.aload_n 0, 0, 0, 0, none, none, []) else none))))) else (bif Nat.ble 15 pc then (bif Nat.ble 26 pc then (bif Nat.ble 30 pc then (bif Nat.ble 33 pc then (bif Nat.ble 34 pc then (bif Nat.beq pc 34 then some (.iastore, 0, 0, 0, none, none, []) else none) else (bif Nat.beq pc 33 then some (.iconst 1, 0, 0, 0, none, none, []) else none)) else (bif Nat.beq pc 30 then some (.getfield 28, 3, 1, 41, none, none, []) else none)) else (bif Nat.ble 27 pc then (bif Nat.beq pc 27 then some (.getfield 21, 2, 0, 10095, none, none, []) else none) else (bif Nat.beq pc 26 then some (.aload_n 0, 0, 0, 0, none, none, []) else none))) else (bif Nat.ble 19 pc then (bif Nat.ble 22 pc then (bif Nat.ble 23 pc then (bif Nat.beq pc 23 then some (.getfield 9, 2, 1, 10096, none, none, []) else none) else (bif Nat.beq pc 22 then some (.aload_n 0, 0, 0, 0, none, none, []) else none)) else (bif Nat.beq pc 19 then some (.goto (-17), 2, 0, 0, none, some [0, 1], []) else none)) else (bif Nat.ble 16 pc then (bif Nat.beq pc 16 then some (.iinc 1 1, 0, 0, 0, none, none, []) else none) else (bif Nat.beq pc 15 then some (.iastore, 0, 0, 0, none, none, []) else none)))) else (bif Nat.ble 6 pc then (bif Nat.ble 10 pc then (bif Nat.ble 13 pc then (bif Nat.ble 14 pc then (bif Nat.beq pc 14 then some (.iconst 0, 0, 0, 0, none, none, []) else none) else (bif Nat.beq pc 13 then some (.iload_n 1, 0, 0, 0, none, none, []) else none)) else (bif Nat.beq pc 10 then some (.getfield 9, 2, 1, 10096, none, none, []) else none)) else (bif Nat.ble 9 pc then (bif Nat.beq pc 9 then some (.aload_n 0, 0, 0, 0, none, none, []) else none) else (bif Nat.beq pc 6 then some (.if_icmp .ge 16, 22, 0, 0, none, some [0], []) else none))) else (bif Nat.ble 2 pc then (bif Nat.ble 3 pc then (bif Nat.beq pc 3 then some (.sipush 256, 0, 0, 0, none, none, []) else none) else (bif Nat.beq pc 2 then some (.iload_n 1, 0, 0, 0, none, none, []) else none)) else (bif Nat.ble 1 pc then (bif Nat.beq pc 1 then some (.istore_n 1, 0, 0, 0, some [0, 1], none, []) else none) else (bif Nat.beq pc 0 then some (.iconst 0, 0, 0, 0, none, none, []) else none))))))
abbrev k_Ord_goneAhead : Nat := 13
noncomputable def tb_13 (pc : Nat) : Option am_I := bif Nat.ble 40 pc then (bif Nat.ble 61 pc then (bif Nat.ble 70 pc then (bif Nat.ble 77 pc then (bif Nat.ble 78 pc then (bif Nat.ble 79 pc then (bif Nat.beq pc 79 then some (.ireturn, 0, 0, 0, none, none, []) else none) else (bif Nat.beq pc 78 then some (.iand, 0, 0, 0, some [], none, []) else none)) else (bif Nat.beq pc 77 then some (.ixor, 0, 0, 0, none, none, []) else none)) else (bif Nat.ble 73 pc then (bif Nat.ble 76 pc then (bif Nat.beq pc 76 then some (.iconst (-1), 0, 0, 0, none, none, []) else none) else (bif Nat.beq pc 73 then some (.getfield 28, 3, 1, 41, none, none, []) else none)) else (bif Nat.beq pc 70 then some (.getfield 21, 2, 0, 10095, none, none, []) else none))) else (bif Nat.ble 65 pc then (bif Nat.ble 68 pc then (bif Nat.ble 69 pc then (bif Nat.beq pc 69 then some (.aload_n 0, 0, 0, 0, none, none, []) else none) else (bif Nat.beq pc 68 then some (.iload_n 2, 0, 0, 0, none, none, []) else none)) else (bif Nat.beq pc 65 then some (.goto 14, 79, 0, 0, none, some [], []) else none)) else (bif Nat.ble 64 pc then (bif Nat.beq pc 64 then some (.iconst (-1), 0, 0, 0, none, none, []) else none) else (bif Nat.beq pc 61 then some (.ifCond .ge 7, 68, 0, 0, none, some [0, 2], []) else none)))) else (bif Nat.ble 51 pc then (bif Nat.ble 54 pc then (bif Nat.ble 57 pc then (bif Nat.ble 60 pc then (bif Nat.beq pc 60 then some (.iload_n 2, 0, 0, 0, none, none, []) else none) else (bif Nat.beq pc 57 then some (.goto (-49), 8, 0, 0, none, some [0, 1, 2, 3], []) else none)) else (bif Nat.beq pc 54 then some (.iinc 3 1, 0, 0, 0, none, none, []) else none)) else (bif Nat.ble 52 pc then (bif Nat.ble 53 pc then (bif Nat.beq pc 53 then some (.istore_n 2, 0, 0, 0, some [0, 1, 2, 3], none, []) else none) else (bif Nat.beq pc 52 then some (.iand, 0, 0, 0, none, none, []) else none)) else (bif Nat.beq pc 51 then some (.iload_n 3, 0, 0, 0, none, none, []) else none))) else (bif Nat.ble 44 pc then (bif Nat.ble 47 pc then (bif Nat.ble 50 pc then (bif Nat.beq pc 50 then some (.iload_n 2, 0, 0, 0, none, none, []) else none) else (bif Nat.beq pc 47 then some (.ifCond .eq 7, 54, 0, 0, none, some [0, 1, 2, 3], []) else none)) else (bif Nat.beq pc 44 then some (.invokestatic 49, 64, 1, 20057, none, none, []) else none)) else (bif Nat.ble 43 pc then (bif Nat.beq pc 43 then some (.iload_n 1, 0, 0, 0, none, none, []) else none) else (bif Nat.beq pc 40 then some (.invokevirtual 39, 30, 0, 20056, none, none, []) else none))))) else (bif Nat.ble 19 pc then (bif Nat.ble 28 pc then (bif Nat.ble 33 pc then (bif Nat.ble 34 pc then (bif Nat.ble 37 pc then (bif Nat.beq pc 37 then some (.getfield 36, 3, 3, 46, none, none, []) else none) else (bif Nat.beq pc 34 then some (.getfield 21, 2, 0, 10095, none, none, []) else none)) else (bif Nat.beq pc 33 then some (.aload_n 0, 0, 0, 0, none, none, []) else none)) else (bif Nat.ble 29 pc then (bif Nat.ble 32 pc then (bif Nat.beq pc 32 then some (.iload_n 3, 0, 0, 0, none, none, []) else none) else (bif Nat.beq pc 29 then some (.getfield 21, 2, 0, 10095, none, none, []) else none)) else (bif Nat.beq pc 28 then some (.aload_n 0, 0, 0, 0, none, none, []) else none))) else (bif Nat.ble 23 pc then (bif Nat.ble 24 pc then (bif Nat.ble 25 pc then (bif Nat.beq pc 25 then some (.ifCond .le 29, 54, 0, 0, none, some [0, 1, 2, 3], []) else none) else (bif Nat.beq pc 24 then some (.iaload, 0, 0, 0, none, none, []) else none)) else (bif Nat.beq pc 23 then some (.iload_n 3, 0, 0, 0, none, none, []) else none)) else (bif Nat.ble 20 pc then (bif Nat.beq pc 20 then some (.getfield 9, 2, 1, 10096, none, none, []) else none) else (bif Nat.beq pc 19 then some (.aload_n 0, 0, 0, 0, none, none, []) else none)))) else (bif Nat.ble 7 pc then (bif Nat.ble 10 pc then (bif Nat.ble 13 pc then (bif Nat.ble 16 pc then (bif Nat.beq pc 16 then some (.if_icmp .gt 44, 60, 0, 0, none, some [0, 2], []) else none) else (bif Nat.beq pc 13 then some (.invokevirtual 32, 21, 0, 20055, none, none, []) else none)) else (bif Nat.beq pc 10 then some (.getfield 21, 2, 0, 10095, none, none, []) else none)) else (bif Nat.ble 8 pc then (bif Nat.ble 9 pc then (bif Nat.beq pc 9 then some (.aload_n 0, 0, 0, 0, none, none, []) else none) else (bif Nat.beq pc 8 then some (.iload_n 3, 0, 0, 0, none, none, []) else none)) else (bif Nat.beq pc 7 then some (.istore_n 3, 0, 0, 0, some [0, 1, 2, 3], none, []) else none))) else (bif Nat.ble 4 pc then (bif Nat.ble 5 pc then (bif Nat.ble 6 pc then (bif Nat.beq pc 6 then some (.iconst 0, 0, 0, 0, none, none, []) else none) else (bif Nat.beq pc 5 then some (.istore_n 2, 0, 0, 0, none, none, []) else none)) else (bif Nat.beq pc 4 then some (.iconst (-1), 0, 0, 0, none, none, []) else none)) else (bif Nat.ble 1 pc then (bif Nat.beq pc 1 then some (.invokevirtual 25, 12, 0, 20051, none, none, []) else none) else (bif Nat.beq pc 0 then some (.aload_n 0, 0, 0, 0, none, none, []) else none)))))
abbrev k_Ord_fewestAhead : Nat := 14
noncomputable def tb_14 (pc : Nat) : Option am_I := bif Nat.ble 43 pc then (bif Nat.ble 66 pc then (bif Nat.ble 78 pc then (bif Nat.ble 85 pc then (bif Nat.ble 88 pc then (bif Nat.ble 89 pc then (bif Nat.beq pc 89 then some (.ireturn, 0, 0, 0, none, none, []) else none) else (bif Nat.beq pc 88 then some (.iload_n 2, 0, 0, 0, none, none, []) else none)) else (bif Nat.beq pc 85 then some (.goto (-77), 8, 0, 0, none, some [0, 1, 2, 3], []) else none)) else (bif Nat.ble 81 pc then (bif Nat.ble 82 pc then (bif Nat.beq pc 82 then some (.iinc 3 1, 0, 0, 0, none, none, []) else none) else (bif Nat.beq pc 81 then some (.istore_n 2, 0, 0, 0, some [0, 1, 2, 3], none, []) else none)) else (bif Nat.beq pc 78 then some (.invokestatic 61, 9002, 0, 20063, some [0, 1, 3], none, []) else none))) else (bif Nat.ble 72 pc then (bif Nat.ble 75 pc then (bif Nat.ble 76 pc then (bif Nat.beq pc 76 then some (.iload 4, 0, 0, 0, none, none, []) else none) else (bif Nat.beq pc 75 then some (.iload_n 2, 0, 0, 0, none, none, []) else none)) else (bif Nat.beq pc 72 then some (.goto 9, 81, 0, 0, none, some [0, 1, 3], []) else none)) else (bif Nat.ble 67 pc then (bif Nat.ble 70 pc then (bif Nat.beq pc 70 then some (.iload 4, 0, 0, 0, none, none, []) else none) else (bif Nat.beq pc 67 then some (.ifCond .ge 8, 75, 0, 0, none, some [0, 1, 2, 3, 4], []) else none)) else (bif Nat.beq pc 66 then some (.iload_n 2, 0, 0, 0, none, none, []) else none)))) else (bif Nat.ble 55 pc then (bif Nat.ble 60 pc then (bif Nat.ble 61 pc then (bif Nat.ble 64 pc then (bif Nat.beq pc 64 then some (.istore 4, 0, 0, 0, none, none, []) else none) else (bif Nat.beq pc 61 then some (.invokestatic 55, 84, 0, 20062, none, none, []) else none)) else (bif Nat.beq pc 60 then some (.iand, 0, 0, 0, none, none, []) else none)) else (bif Nat.ble 58 pc then (bif Nat.ble 59 pc then (bif Nat.beq pc 59 then some (.ixor, 0, 0, 0, none, none, []) else none) else (bif Nat.beq pc 58 then some (.iconst (-1), 0, 0, 0, none, none, []) else none)) else (bif Nat.beq pc 55 then some (.getfield 28, 3, 1, 41, none, none, []) else none))) else (bif Nat.ble 50 pc then (bif Nat.ble 51 pc then (bif Nat.ble 52 pc then (bif Nat.beq pc 52 then some (.getfield 21, 2, 0, 10095, none, none, []) else none) else (bif Nat.beq pc 51 then some (.aload_n 0, 0, 0, 0, none, none, []) else none)) else (bif Nat.beq pc 50 then some (.iload_n 3, 0, 0, 0, none, none, []) else none)) else (bif Nat.ble 44 pc then (bif Nat.ble 47 pc then (bif Nat.beq pc 47 then some (.ifCond .eq 35, 82, 0, 0, none, some [0, 1, 2, 3], []) else none) else (bif Nat.beq pc 44 then some (.invokestatic 49, 64, 1, 20057, none, none, []) else none)) else (bif Nat.beq pc 43 then some (.iload_n 1, 0, 0, 0, none, none, []) else none))))) else (bif Nat.ble 19 pc then (bif Nat.ble 29 pc then (bif Nat.ble 34 pc then (bif Nat.ble 37 pc then (bif Nat.ble 40 pc then (bif Nat.beq pc 40 then some (.invokevirtual 39, 30, 0, 20056, none, none, []) else none) else (bif Nat.beq pc 37 then some (.getfield 36, 3, 3, 46, none, none, []) else none)) else (bif Nat.beq pc 34 then some (.getfield 21, 2, 0, 10095, none, none, []) else none)) else (bif Nat.ble 32 pc then (bif Nat.ble 33 pc then (bif Nat.beq pc 33 then some (.aload_n 0, 0, 0, 0, none, none, []) else none) else (bif Nat.beq pc 32 then some (.iload_n 3, 0, 0, 0, none, none, []) else none)) else (bif Nat.beq pc 29 then some (.getfield 21, 2, 0, 10095, none, none, []) else none))) else (bif Nat.ble 24 pc then (bif Nat.ble 25 pc then (bif Nat.ble 28 pc then (bif Nat.beq pc 28 then some (.aload_n 0, 0, 0, 0, none, none, []) else none) else (bif Nat.beq pc 25 then some (.ifCond .le 57, 82, 0, 0, none, some [0, 1, 2, 3], []) else none)) else (bif Nat.beq pc 24 then some (.iaload, 0, 0, 0, none, none, []) else none)) else (bif Nat.ble 20 pc then (bif Nat.ble 23 pc then (bif Nat.beq pc 23 then some (.iload_n 3, 0, 0, 0, none, none, []) else none) else (bif Nat.beq pc 20 then some (.getfield 9, 2, 1, 10096, none, none, []) else none)) else (bif Nat.beq pc 19 then some (.aload_n 0, 0, 0, 0, none, none, []) else none)))) else (bif Nat.ble 7 pc then (bif Nat.ble 10 pc then (bif Nat.ble 13 pc then (bif Nat.ble 16 pc then (bif Nat.beq pc 16 then some (.if_icmp .gt 72, 88, 0, 0, none, some [2], []) else none) else (bif Nat.beq pc 13 then some (.invokevirtual 32, 21, 0, 20055, none, none, []) else none)) else (bif Nat.beq pc 10 then some (.getfield 21, 2, 0, 10095, none, none, []) else none)) else (bif Nat.ble 8 pc then (bif Nat.ble 9 pc then (bif Nat.beq pc 9 then some (.aload_n 0, 0, 0, 0, none, none, []) else none) else (bif Nat.beq pc 8 then some (.iload_n 3, 0, 0, 0, none, none, []) else none)) else (bif Nat.beq pc 7 then some (.istore_n 3, 0, 0, 0, some [0, 1, 2, 3], none, []) else none))) else (bif Nat.ble 4 pc then (bif Nat.ble 5 pc then (bif Nat.ble 6 pc then (bif Nat.beq pc 6 then some (.iconst 0, 0, 0, 0, none, none, []) else none) else (bif Nat.beq pc 5 then some (.istore_n 2, 0, 0, 0, none, none, []) else none)) else (bif Nat.beq pc 4 then some (.iconst (-1), 0, 0, 0, none, none, []) else none)) else (bif Nat.ble 1 pc then (bif Nat.beq pc 1 then some (.invokevirtual 25, 12, 0, 20051, none, none, []) else none) else (bif Nat.beq pc 0 then some (.aload_n 0, 0, 0, 0, none, none, []) else none)))))
abbrev k_Rail_init : Nat := 15
noncomputable def tb_15 (pc : Nat) : Option am_I := bif Nat.ble 40 pc then (bif Nat.ble 62 pc then (bif Nat.ble 74 pc then (bif Nat.ble 80 pc then (bif Nat.ble 82 pc then (bif Nat.ble 85 pc then (bif Nat.beq pc 85 then some (.return_, 0, 0, 0, none, none, []) else none) else (bif Nat.beq pc 82 then some (.putfield 44, 3, 11, 66, none, none, []) else none)) else (bif Nat.beq pc 80 then some (.newarray .int, 0, 0, 0, none, none, []) else none)) else (bif Nat.ble 77 pc then (bif Nat.ble 78 pc then (bif Nat.beq pc 78 then some (.bipush 10, 0, 0, 0, none, none, []) else none) else (bif Nat.beq pc 77 then some (.aload_n 0, 0, 0, 0, none, none, []) else none)) else (bif Nat.beq pc 74 then some (.putfield 41, 3, 10, 63, none, none, []) else none))) else (bif Nat.ble 69 pc then (bif Nat.ble 70 pc then (bif Nat.ble 72 pc then (bif Nat.beq pc 72 then some (.newarray .int, 0, 0, 0, none, none, []) else none) else (bif Nat.beq pc 70 then some (.bipush 10, 0, 0, 0, none, none, []) else none)) else (bif Nat.beq pc 69 then some (.aload_n 0, 0, 0, 0, none, none, []) else none)) else (bif Nat.ble 64 pc then (bif Nat.ble 66 pc then (bif Nat.beq pc 66 then some (.putfield 38, 3, 9, 60, none, none, []) else none) else (bif Nat.beq pc 64 then some (.newarray .int, 0, 0, 0, none, none, []) else none)) else (bif Nat.beq pc 62 then some (.bipush 10, 0, 0, 0, none, none, []) else none)))) else (bif Nat.ble 50 pc then (bif Nat.ble 56 pc then (bif Nat.ble 58 pc then (bif Nat.ble 61 pc then (bif Nat.beq pc 61 then some (.aload_n 0, 0, 0, 0, none, none, []) else none) else (bif Nat.beq pc 58 then some (.putfield 35, 3, 8, 57, none, none, []) else none)) else (bif Nat.beq pc 56 then some (.newarray .int, 0, 0, 0, none, none, []) else none)) else (bif Nat.ble 53 pc then (bif Nat.ble 54 pc then (bif Nat.beq pc 54 then some (.bipush 10, 0, 0, 0, none, none, []) else none) else (bif Nat.beq pc 53 then some (.aload_n 0, 0, 0, 0, none, none, []) else none)) else (bif Nat.beq pc 50 then some (.putfield 32, 3, 7, 55, none, none, []) else none))) else (bif Nat.ble 45 pc then (bif Nat.ble 46 pc then (bif Nat.ble 48 pc then (bif Nat.beq pc 48 then some (.newarray .int, 0, 0, 0, none, none, []) else none) else (bif Nat.beq pc 46 then some (.bipush 8, 0, 0, 0, none, none, []) else none)) else (bif Nat.beq pc 45 then some (.aload_n 0, 0, 0, 0, none, none, []) else none)) else (bif Nat.ble 42 pc then (bif Nat.beq pc 42 then some (.putfield 29, 3, 6, 52, none, none, []) else none) else (bif Nat.beq pc 40 then some (.newarray .int, 0, 0, 0, none, none, []) else none))))) else (bif Nat.ble 19 pc then (bif Nat.ble 29 pc then (bif Nat.ble 34 pc then (bif Nat.ble 37 pc then (bif Nat.ble 38 pc then (bif Nat.beq pc 38 then some (.bipush 8, 0, 0, 0, none, none, []) else none) else (bif Nat.beq pc 37 then some (.aload_n 0, 0, 0, 0, none, none, []) else none)) else (bif Nat.beq pc 34 then some (.putfield 25, 3, 5, 49, none, none, []) else none)) else (bif Nat.ble 30 pc then (bif Nat.ble 32 pc then (bif Nat.beq pc 32 then some (.newarray .int, 0, 0, 0, none, none, []) else none) else (bif Nat.beq pc 30 then some (.bipush 8, 0, 0, 0, none, none, []) else none)) else (bif Nat.beq pc 29 then some (.aload_n 0, 0, 0, 0, none, none, []) else none))) else (bif Nat.ble 24 pc then (bif Nat.ble 25 pc then (bif Nat.ble 26 pc then (bif Nat.beq pc 26 then some (.putfield 22, 3, 4, 47, none, none, []) else none) else (bif Nat.beq pc 25 then some (.iconst 0, 0, 0, 0, none, none, []) else none)) else (bif Nat.beq pc 24 then some (.aload_n 0, 0, 0, 0, none, none, []) else none)) else (bif Nat.ble 20 pc then (bif Nat.ble 21 pc then (bif Nat.beq pc 21 then some (.putfield 19, 3, 3, 44, none, none, []) else none) else (bif Nat.beq pc 20 then some (.iconst 0, 0, 0, 0, none, none, []) else none)) else (bif Nat.beq pc 19 then some (.aload_n 0, 0, 0, 0, none, none, []) else none)))) else (bif Nat.ble 9 pc then (bif Nat.ble 14 pc then (bif Nat.ble 15 pc then (bif Nat.ble 16 pc then (bif Nat.beq pc 16 then some (.putfield 16, 3, 2, 42, none, none, []) else none) else (bif Nat.beq pc 15 then some (.iconst 0, 0, 0, 0, none, none, []) else none)) else (bif Nat.beq pc 14 then some (.aload_n 0, 0, 0, 0, none, none, []) else none)) else (bif Nat.ble 10 pc then (bif Nat.ble 11 pc then (bif Nat.beq pc 11 then some (.putfield 13, 3, 1, 39, none, none, []) else none) else (bif Nat.beq pc 10 then some (.iconst 0, 0, 0, 0, none, none, []) else none)) else (bif Nat.beq pc 9 then some (.aload_n 0, 0, 0, 0, none, none, []) else none))) else (bif Nat.ble 4 pc then (bif Nat.ble 5 pc then (bif Nat.ble 6 pc then (bif Nat.beq pc 6 then some (.putfield 7, 3, 0, 36, none, none, []) else none) else (bif Nat.beq pc 5 then some (.iconst 0, 0, 0, 0, none, none, []) else none)) else (bif Nat.beq pc 4 then some (.aload_n 0, 0, 0, 0, none, none, []) else none)) else (bif Nat.ble 1 pc then (bif Nat.beq pc 1 then some (.invokespecial 1, 9999, 0, 35, none, none, []) else none) else (bif Nat.beq pc 0 then some (.aload_n 0, 0, 0, 0, none, none, []) else none)))))
abbrev k_Rail_isThing : Nat := 16
noncomputable def tb_16 (pc : Nat) : Option am_I := bif Nat.ble 9 pc then (bif Nat.ble 13 pc then (bif Nat.ble 16 pc then (bif Nat.ble 17 pc then (bif Nat.beq pc 17 then some (.ireturn, 0, 0, 0, none, none, []) else none) else (bif Nat.beq pc 16 then some (.iconst 0, 0, 0, 0, some [], none, []) else none)) else (bif Nat.beq pc 13 then some (.goto 4, 17, 0, 0, none, some [], []) else none)) else (bif Nat.ble 12 pc then (bif Nat.beq pc 12 then some (.iconst 1, 0, 0, 0, none, none, []) else none) else (bif Nat.beq pc 9 then some (.if_icmp .ge 7, 16, 0, 0, none, some [], []) else none))) else (bif Nat.ble 4 pc then (bif Nat.ble 5 pc then (bif Nat.ble 6 pc then (bif Nat.beq pc 6 then some (.getfield 7, 3, 0, 36, none, none, []) else none) else (bif Nat.beq pc 5 then some (.aload_n 0, 0, 0, 0, none, none, []) else none)) else (bif Nat.beq pc 4 then some (.iload_n 1, 0, 0, 0, none, none, []) else none)) else (bif Nat.ble 1 pc then (bif Nat.beq pc 1 then some (.ifCond .lt 15, 16, 0, 0, none, some [], []) else none) else (bif Nat.beq pc 0 then some (.iload_n 1, 0, 0, 0, none, none, []) else none)))
abbrev k_Rail_isLock : Nat := 17
noncomputable def tb_17 (pc : Nat) : Option am_I := bif Nat.ble 9 pc then (bif Nat.ble 13 pc then (bif Nat.ble 16 pc then (bif Nat.ble 17 pc then (bif Nat.beq pc 17 then some (.ireturn, 0, 0, 0, none, none, []) else none) else (bif Nat.beq pc 16 then some (.iconst 0, 0, 0, 0, some [], none, []) else none)) else (bif Nat.beq pc 13 then some (.goto 4, 17, 0, 0, none, some [], []) else none)) else (bif Nat.ble 12 pc then (bif Nat.beq pc 12 then some (.iconst 1, 0, 0, 0, none, none, []) else none) else (bif Nat.beq pc 9 then some (.if_icmp .ge 7, 16, 0, 0, none, some [], []) else none))) else (bif Nat.ble 4 pc then (bif Nat.ble 5 pc then (bif Nat.ble 6 pc then (bif Nat.beq pc 6 then some (.getfield 16, 3, 2, 42, none, none, []) else none) else (bif Nat.beq pc 5 then some (.aload_n 0, 0, 0, 0, none, none, []) else none)) else (bif Nat.beq pc 4 then some (.iload_n 1, 0, 0, 0, none, none, []) else none)) else (bif Nat.ble 1 pc then (bif Nat.beq pc 1 then some (.ifCond .lt 15, 16, 0, 0, none, some [], []) else none) else (bif Nat.beq pc 0 then some (.iload_n 1, 0, 0, 0, none, none, []) else none)))
abbrev k_Rail_isGone : Nat := 18
noncomputable def tb_18 (pc : Nat) : Option am_I := bif Nat.ble 4 pc then (bif Nat.ble 5 pc then (bif Nat.ble 8 pc then (bif Nat.beq pc 8 then some (.ireturn, 0, 0, 0, none, none, []) else none) else (bif Nat.beq pc 5 then some (.invokestatic 47, 64, 1, 10185, none, none, []) else none)) else (bif Nat.beq pc 4 then some (.iload_n 1, 0, 0, 0, none, none, []) else none)) else (bif Nat.ble 1 pc then (bif Nat.beq pc 1 then some (.getfield 13, 3, 1, 39, none, none, []) else none) else (bif Nat.beq pc 0 then some (.aload_n 0, 0, 0, 0, none, none, []) else none))
abbrev k_Rail_isShut : Nat := 19
noncomputable def tb_19 (pc : Nat) : Option am_I := bif Nat.ble 16 pc then (bif Nat.ble 24 pc then (bif Nat.ble 28 pc then (bif Nat.ble 31 pc then (bif Nat.ble 32 pc then (bif Nat.beq pc 32 then some (.ireturn, 0, 0, 0, none, none, []) else none) else (bif Nat.beq pc 31 then some (.iconst 0, 0, 0, 0, some [], none, []) else none)) else (bif Nat.beq pc 28 then some (.goto 4, 32, 0, 0, none, some [], []) else none)) else (bif Nat.ble 27 pc then (bif Nat.beq pc 27 then some (.iconst 1, 0, 0, 0, none, none, []) else none) else (bif Nat.beq pc 24 then some (.ifCond .ne 7, 31, 0, 0, none, some [], []) else none))) else (bif Nat.ble 20 pc then (bif Nat.ble 21 pc then (bif Nat.beq pc 21 then some (.invokestatic 47, 64, 1, 10185, none, none, []) else none) else (bif Nat.beq pc 20 then some (.iaload, 0, 0, 0, none, none, []) else none)) else (bif Nat.ble 19 pc then (bif Nat.beq pc 19 then some (.iload_n 1, 0, 0, 0, none, none, []) else none) else (bif Nat.beq pc 16 then some (.getfield 35, 3, 8, 57, none, none, []) else none)))) else (bif Nat.ble 8 pc then (bif Nat.ble 12 pc then (bif Nat.ble 15 pc then (bif Nat.beq pc 15 then some (.aload_n 0, 0, 0, 0, none, none, []) else none) else (bif Nat.beq pc 12 then some (.getfield 13, 3, 1, 39, none, none, []) else none)) else (bif Nat.ble 11 pc then (bif Nat.beq pc 11 then some (.aload_n 0, 0, 0, 0, none, none, []) else none) else (bif Nat.beq pc 8 then some (.ifCond .ne 23, 31, 0, 0, none, some [], []) else none))) else (bif Nat.ble 4 pc then (bif Nat.ble 5 pc then (bif Nat.beq pc 5 then some (.invokestatic 47, 64, 1, 10185, none, none, []) else none) else (bif Nat.beq pc 4 then some (.iload_n 1, 0, 0, 0, none, none, []) else none)) else (bif Nat.ble 1 pc then (bif Nat.beq pc 1 then some (.getfield 19, 3, 3, 44, none, none, []) else none) else (bif Nat.beq pc 0 then some (.aload_n 0, 0, 0, 0, none, none, []) else none))))
abbrev k_Rail_isThrough : Nat := 20
noncomputable def tb_20 (pc : Nat) : Option am_I := bif Nat.ble 13 pc then (bif Nat.ble 19 pc then (bif Nat.ble 23 pc then (bif Nat.ble 24 pc then (bif Nat.beq pc 24 then some (.ireturn, 0, 0, 0, none, none, []) else none) else (bif Nat.beq pc 23 then some (.iconst 0, 0, 0, 0, some [], none, []) else none)) else (bif Nat.ble 20 pc then (bif Nat.beq pc 20 then some (.goto 4, 24, 0, 0, none, some [], []) else none) else (bif Nat.beq pc 19 then some (.iconst 1, 0, 0, 0, none, none, []) else none))) else (bif Nat.ble 15 pc then (bif Nat.ble 16 pc then (bif Nat.beq pc 16 then some (.ifCond .ne 7, 23, 0, 0, none, some [], []) else none) else (bif Nat.beq pc 15 then some (.iand, 0, 0, 0, none, none, []) else none)) else (bif Nat.ble 14 pc then (bif Nat.beq pc 14 then some (.ixor, 0, 0, 0, none, none, []) else none) else (bif Nat.beq pc 13 then some (.iconst (-1), 0, 0, 0, none, none, []) else none)))) else (bif Nat.ble 5 pc then (bif Nat.ble 9 pc then (bif Nat.ble 12 pc then (bif Nat.beq pc 12 then some (.ior, 0, 0, 0, none, none, []) else none) else (bif Nat.beq pc 9 then some (.sipush 256, 0, 0, 0, none, none, []) else none)) else (bif Nat.ble 6 pc then (bif Nat.beq pc 6 then some (.invokevirtual 60, 21, 0, 10221, none, none, []) else none) else (bif Nat.beq pc 5 then some (.aload_n 0, 0, 0, 0, none, none, []) else none))) else (bif Nat.ble 1 pc then (bif Nat.ble 4 pc then (bif Nat.beq pc 4 then some (.iload_n 1, 0, 0, 0, none, none, []) else none) else (bif Nat.beq pc 1 then some (.ifCond .eq 22, 23, 0, 0, none, some [], []) else none)) else (bif Nat.beq pc 0 then some (.iload_n 1, 0, 0, 0, none, none, []) else none)))
abbrev k_Rail_allThings : Nat := 21
noncomputable def tb_21 (pc : Nat) : Option am_I := bif Nat.ble 5 pc then (bif Nat.ble 7 pc then (bif Nat.ble 8 pc then (bif Nat.beq pc 8 then some (.ireturn, 0, 0, 0, none, none, []) else none) else (bif Nat.beq pc 7 then some (.isub, 0, 0, 0, none, none, []) else none)) else (bif Nat.ble 6 pc then (bif Nat.beq pc 6 then some (.iconst 1, 0, 0, 0, none, none, []) else none) else (bif Nat.beq pc 5 then some (.ishl, 0, 0, 0, none, none, []) else none))) else (bif Nat.ble 1 pc then (bif Nat.ble 2 pc then (bif Nat.beq pc 2 then some (.getfield 7, 3, 0, 36, none, none, []) else none) else (bif Nat.beq pc 1 then some (.aload_n 0, 0, 0, 0, none, none, []) else none)) else (bif Nat.beq pc 0 then some (.iconst 1, 0, 0, 0, none, none, []) else none))
abbrev k_Rail_addThing : Nat := 22
noncomputable def tb_22 (pc : Nat) : Option am_I := bif Nat.ble 22 pc then (bif Nat.ble 31 pc then (bif Nat.ble 35 pc then (bif Nat.ble 36 pc then (bif Nat.ble 39 pc then (bif Nat.beq pc 39 then some (.return_, 0, 0, 0, none, none, []) else none) else (bif Nat.beq pc 36 then some (.invokevirtual 64, 23, 0, 20108, none, none, []) else none)) else (bif Nat.beq pc 35 then some (.iload_n 1, 0, 0, 0, none, none, []) else none)) else (bif Nat.ble 32 pc then (bif Nat.ble 33 pc then (bif Nat.beq pc 33 then some (.iload 4, 0, 0, 0, none, none, []) else none) else (bif Nat.beq pc 32 then some (.aload_n 0, 0, 0, 0, none, none, []) else none)) else (bif Nat.beq pc 31 then some (.iastore, 0, 0, 0, none, none, []) else none))) else (bif Nat.ble 25 pc then (bif Nat.ble 28 pc then (bif Nat.ble 30 pc then (bif Nat.beq pc 30 then some (.iload_n 3, 0, 0, 0, none, none, []) else none) else (bif Nat.beq pc 28 then some (.iload 4, 0, 0, 0, none, none, []) else none)) else (bif Nat.beq pc 25 then some (.getfield 32, 3, 7, 55, none, none, []) else none)) else (bif Nat.ble 23 pc then (bif Nat.ble 24 pc then (bif Nat.beq pc 24 then some (.aload_n 0, 0, 0, 0, none, none, []) else none) else (bif Nat.beq pc 23 then some (.iastore, 0, 0, 0, none, none, []) else none)) else (bif Nat.beq pc 22 then some (.iload_n 2, 0, 0, 0, none, none, []) else none)))) else (bif Nat.ble 11 pc then (bif Nat.ble 16 pc then (bif Nat.ble 17 pc then (bif Nat.ble 20 pc then (bif Nat.beq pc 20 then some (.iload 4, 0, 0, 0, none, none, []) else none) else (bif Nat.beq pc 17 then some (.getfield 29, 3, 6, 52, none, none, []) else none)) else (bif Nat.beq pc 16 then some (.aload_n 0, 0, 0, 0, none, none, []) else none)) else (bif Nat.ble 12 pc then (bif Nat.ble 13 pc then (bif Nat.beq pc 13 then some (.putfield 7, 3, 0, 36, none, none, []) else none) else (bif Nat.beq pc 12 then some (.iadd, 0, 0, 0, none, none, []) else none)) else (bif Nat.beq pc 11 then some (.iconst 1, 0, 0, 0, none, none, []) else none))) else (bif Nat.ble 6 pc then (bif Nat.ble 7 pc then (bif Nat.ble 8 pc then (bif Nat.beq pc 8 then some (.getfield 7, 3, 0, 36, none, none, []) else none) else (bif Nat.beq pc 7 then some (.dup, 0, 0, 0, none, none, []) else none)) else (bif Nat.beq pc 6 then some (.aload_n 0, 0, 0, 0, none, none, []) else none)) else (bif Nat.ble 1 pc then (bif Nat.ble 4 pc then (bif Nat.beq pc 4 then some (.istore 4, 0, 0, 0, none, none, []) else none) else (bif Nat.beq pc 1 then some (.getfield 7, 3, 0, 36, none, none, []) else none)) else (bif Nat.beq pc 0 then some (.aload_n 0, 0, 0, 0, none, none, []) else none))))
abbrev k_Rail_putKind : Nat := 23
noncomputable def tb_23 (pc : Nat) : Option am_I := bif Nat.ble 32 pc then (bif Nat.ble 46 pc then (bif Nat.ble 55 pc then (bif Nat.ble 60 pc then (bif Nat.ble 63 pc then (bif Nat.ble 66 pc then (bif Nat.beq pc 66 then some (.return_, 0, 0, 0, none, none, []) else none) else (bif Nat.beq pc 63 then some (.goto (-16), 47, 0, 0, none, some [0, 3], []) else none)) else (bif Nat.beq pc 60 then some (.iinc 3 1, 0, 0, 0, none, none, []) else none)) else (bif Nat.ble 56 pc then (bif Nat.ble 57 pc then (bif Nat.beq pc 57 then some (.invokevirtual 73, 26, 0, 20118, none, none, []) else none) else (bif Nat.beq pc 56 then some (.iload_n 3, 0, 0, 0, none, none, []) else none)) else (bif Nat.beq pc 55 then some (.aload_n 0, 0, 0, 0, none, none, []) else none))) else (bif Nat.ble 48 pc then (bif Nat.ble 49 pc then (bif Nat.ble 52 pc then (bif Nat.beq pc 52 then some (.if_icmp .ge 14, 66, 0, 0, none, some [], []) else none) else (bif Nat.beq pc 49 then some (.getfield 16, 3, 2, 42, none, none, []) else none)) else (bif Nat.beq pc 48 then some (.aload_n 0, 0, 0, 0, none, none, []) else none)) else (bif Nat.ble 47 pc then (bif Nat.beq pc 47 then some (.iload_n 3, 0, 0, 0, none, none, []) else none) else (bif Nat.beq pc 46 then some (.istore_n 3, 0, 0, 0, some [0, 3], none, []) else none)))) else (bif Nat.ble 39 pc then (bif Nat.ble 41 pc then (bif Nat.ble 42 pc then (bif Nat.ble 45 pc then (bif Nat.beq pc 45 then some (.iconst 0, 0, 0, 0, none, none, []) else none) else (bif Nat.beq pc 42 then some (.putfield 22, 3, 4, 47, none, none, []) else none)) else (bif Nat.beq pc 41 then some (.iand, 0, 0, 0, some [0], none, []) else none)) else (bif Nat.ble 40 pc then (bif Nat.beq pc 40 then some (.ixor, 0, 0, 0, none, none, []) else none) else (bif Nat.beq pc 39 then some (.iconst (-1), 0, 0, 0, none, none, []) else none))) else (bif Nat.ble 36 pc then (bif Nat.ble 37 pc then (bif Nat.ble 38 pc then (bif Nat.beq pc 38 then some (.ishl, 0, 0, 0, none, none, []) else none) else (bif Nat.beq pc 37 then some (.iload_n 1, 0, 0, 0, none, none, []) else none)) else (bif Nat.beq pc 36 then some (.iconst 1, 0, 0, 0, none, none, []) else none)) else (bif Nat.ble 33 pc then (bif Nat.beq pc 33 then some (.getfield 22, 3, 4, 47, none, none, []) else none) else (bif Nat.beq pc 32 then some (.aload_n 0, 0, 0, 0, none, none, []) else none))))) else (bif Nat.ble 14 pc then (bif Nat.ble 25 pc then (bif Nat.ble 27 pc then (bif Nat.ble 28 pc then (bif Nat.ble 29 pc then (bif Nat.beq pc 29 then some (.goto 13, 42, 0, 0, none, some [0], []) else none) else (bif Nat.beq pc 28 then some (.ior, 0, 0, 0, none, none, []) else none)) else (bif Nat.beq pc 27 then some (.ishl, 0, 0, 0, none, none, []) else none)) else (bif Nat.ble 26 pc then (bif Nat.beq pc 26 then some (.iload_n 1, 0, 0, 0, none, none, []) else none) else (bif Nat.beq pc 25 then some (.iconst 1, 0, 0, 0, none, none, []) else none))) else (bif Nat.ble 18 pc then (bif Nat.ble 21 pc then (bif Nat.ble 22 pc then (bif Nat.beq pc 22 then some (.getfield 22, 3, 4, 47, none, none, []) else none) else (bif Nat.beq pc 21 then some (.aload_n 0, 0, 0, 0, none, none, []) else none)) else (bif Nat.beq pc 18 then some (.ifCond .eq 14, 32, 0, 0, none, some [0, 1], []) else none)) else (bif Nat.ble 15 pc then (bif Nat.beq pc 15 then some (.invokestatic 68, 3, 0, 20112, none, none, []) else none) else (bif Nat.beq pc 14 then some (.iaload, 0, 0, 0, none, none, []) else none)))) else (bif Nat.ble 7 pc then (bif Nat.ble 9 pc then (bif Nat.ble 10 pc then (bif Nat.ble 13 pc then (bif Nat.beq pc 13 then some (.iload_n 1, 0, 0, 0, none, none, []) else none) else (bif Nat.beq pc 10 then some (.getfield 29, 3, 6, 52, none, none, []) else none)) else (bif Nat.beq pc 9 then some (.aload_n 0, 0, 0, 0, none, none, []) else none)) else (bif Nat.ble 8 pc then (bif Nat.beq pc 8 then some (.iload_n 2, 0, 0, 0, none, none, []) else none) else (bif Nat.beq pc 7 then some (.aload_n 0, 0, 0, 0, none, none, []) else none))) else (bif Nat.ble 4 pc then (bif Nat.ble 5 pc then (bif Nat.ble 6 pc then (bif Nat.beq pc 6 then some (.iastore, 0, 0, 0, none, none, []) else none) else (bif Nat.beq pc 5 then some (.iload_n 2, 0, 0, 0, none, none, []) else none)) else (bif Nat.beq pc 4 then some (.iload_n 1, 0, 0, 0, none, none, []) else none)) else (bif Nat.ble 1 pc then (bif Nat.beq pc 1 then some (.getfield 25, 3, 5, 49, none, none, []) else none) else (bif Nat.beq pc 0 then some (.aload_n 0, 0, 0, 0, none, none, []) else none)))))
abbrev k_Rail_addLock : Nat := 24
noncomputable def tb_24 (pc : Nat) : Option am_I := bif Nat.ble 22 pc then (bif Nat.ble 31 pc then (bif Nat.ble 35 pc then (bif Nat.ble 36 pc then (bif Nat.ble 39 pc then (bif Nat.beq pc 39 then some (.return_, 0, 0, 0, none, none, []) else none) else (bif Nat.beq pc 36 then some (.invokevirtual 77, 25, 0, 20152, none, none, []) else none)) else (bif Nat.beq pc 35 then some (.iload_n 3, 0, 0, 0, none, none, []) else none)) else (bif Nat.ble 32 pc then (bif Nat.ble 33 pc then (bif Nat.beq pc 33 then some (.iload 4, 0, 0, 0, none, none, []) else none) else (bif Nat.beq pc 32 then some (.aload_n 0, 0, 0, 0, none, none, []) else none)) else (bif Nat.beq pc 31 then some (.iastore, 0, 0, 0, none, none, []) else none))) else (bif Nat.ble 25 pc then (bif Nat.ble 28 pc then (bif Nat.ble 30 pc then (bif Nat.beq pc 30 then some (.iload_n 2, 0, 0, 0, none, none, []) else none) else (bif Nat.beq pc 28 then some (.iload 4, 0, 0, 0, none, none, []) else none)) else (bif Nat.beq pc 25 then some (.getfield 38, 3, 9, 60, none, none, []) else none)) else (bif Nat.ble 23 pc then (bif Nat.ble 24 pc then (bif Nat.beq pc 24 then some (.aload_n 0, 0, 0, 0, none, none, []) else none) else (bif Nat.beq pc 23 then some (.iastore, 0, 0, 0, none, none, []) else none)) else (bif Nat.beq pc 22 then some (.iload_n 1, 0, 0, 0, none, none, []) else none)))) else (bif Nat.ble 11 pc then (bif Nat.ble 16 pc then (bif Nat.ble 17 pc then (bif Nat.ble 20 pc then (bif Nat.beq pc 20 then some (.iload 4, 0, 0, 0, none, none, []) else none) else (bif Nat.beq pc 17 then some (.getfield 35, 3, 8, 57, none, none, []) else none)) else (bif Nat.beq pc 16 then some (.aload_n 0, 0, 0, 0, none, none, []) else none)) else (bif Nat.ble 12 pc then (bif Nat.ble 13 pc then (bif Nat.beq pc 13 then some (.putfield 16, 3, 2, 42, none, none, []) else none) else (bif Nat.beq pc 12 then some (.iadd, 0, 0, 0, none, none, []) else none)) else (bif Nat.beq pc 11 then some (.iconst 1, 0, 0, 0, none, none, []) else none))) else (bif Nat.ble 6 pc then (bif Nat.ble 7 pc then (bif Nat.ble 8 pc then (bif Nat.beq pc 8 then some (.getfield 16, 3, 2, 42, none, none, []) else none) else (bif Nat.beq pc 7 then some (.dup, 0, 0, 0, none, none, []) else none)) else (bif Nat.beq pc 6 then some (.aload_n 0, 0, 0, 0, none, none, []) else none)) else (bif Nat.ble 1 pc then (bif Nat.ble 4 pc then (bif Nat.beq pc 4 then some (.istore 4, 0, 0, 0, none, none, []) else none) else (bif Nat.beq pc 1 then some (.getfield 16, 3, 2, 42, none, none, []) else none)) else (bif Nat.beq pc 0 then some (.aload_n 0, 0, 0, 0, none, none, []) else none))))
abbrev k_Rail_putSet : Nat := 25
noncomputable def tb_25 (pc : Nat) : Option am_I := bif Nat.ble 6 pc then (bif Nat.ble 8 pc then (bif Nat.ble 9 pc then (bif Nat.ble 12 pc then (bif Nat.beq pc 12 then some (.return_, 0, 0, 0, none, none, []) else none) else (bif Nat.beq pc 9 then some (.invokevirtual 73, 26, 0, 20118, none, none, []) else none)) else (bif Nat.beq pc 8 then some (.iload_n 1, 0, 0, 0, none, none, []) else none)) else (bif Nat.ble 7 pc then (bif Nat.beq pc 7 then some (.aload_n 0, 0, 0, 0, none, none, []) else none) else (bif Nat.beq pc 6 then some (.iastore, 0, 0, 0, none, none, []) else none))) else (bif Nat.ble 4 pc then (bif Nat.ble 5 pc then (bif Nat.beq pc 5 then some (.iload_n 2, 0, 0, 0, none, none, []) else none) else (bif Nat.beq pc 4 then some (.iload_n 1, 0, 0, 0, none, none, []) else none)) else (bif Nat.ble 1 pc then (bif Nat.beq pc 1 then some (.getfield 41, 3, 10, 63, none, none, []) else none) else (bif Nat.beq pc 0 then some (.aload_n 0, 0, 0, 0, none, none, []) else none)))
abbrev k_Rail_regrip : Nat := 26
noncomputable def tb_26 (pc : Nat) : Option am_I := bif Nat.ble 35 pc then (bif Nat.ble 52 pc then (bif Nat.ble 61 pc then (bif Nat.ble 66 pc then (bif Nat.ble 67 pc then (bif Nat.ble 68 pc then (bif Nat.beq pc 68 then some (.return_, 0, 0, 0, none, none, []) else none) else (bif Nat.beq pc 67 then some (.iastore, 0, 0, 0, none, none, []) else none)) else (bif Nat.beq pc 66 then some (.iload_n 2, 0, 0, 0, none, none, []) else none)) else (bif Nat.ble 62 pc then (bif Nat.ble 65 pc then (bif Nat.beq pc 65 then some (.iload_n 1, 0, 0, 0, none, none, []) else none) else (bif Nat.beq pc 62 then some (.getfield 44, 3, 11, 66, none, none, []) else none)) else (bif Nat.beq pc 61 then some (.aload_n 0, 0, 0, 0, none, none, []) else none))) else (bif Nat.ble 54 pc then (bif Nat.ble 55 pc then (bif Nat.ble 58 pc then (bif Nat.beq pc 58 then some (.goto (-54), 4, 0, 0, none, some [0, 1, 2, 3], []) else none) else (bif Nat.beq pc 55 then some (.iinc 3 1, 0, 0, 0, none, none, []) else none)) else (bif Nat.beq pc 54 then some (.istore_n 2, 0, 0, 0, some [0, 1, 2, 3], none, []) else none)) else (bif Nat.ble 53 pc then (bif Nat.beq pc 53 then some (.ior, 0, 0, 0, none, none, []) else none) else (bif Nat.beq pc 52 then some (.ishl, 0, 0, 0, none, none, []) else none)))) else (bif Nat.ble 42 pc then (bif Nat.ble 49 pc then (bif Nat.ble 50 pc then (bif Nat.ble 51 pc then (bif Nat.beq pc 51 then some (.iload_n 3, 0, 0, 0, none, none, []) else none) else (bif Nat.beq pc 50 then some (.iconst 1, 0, 0, 0, none, none, []) else none)) else (bif Nat.beq pc 49 then some (.iload_n 2, 0, 0, 0, none, none, []) else none)) else (bif Nat.ble 43 pc then (bif Nat.ble 46 pc then (bif Nat.beq pc 46 then some (.ifCond .eq 9, 55, 0, 0, none, some [0, 1, 2, 3], []) else none) else (bif Nat.beq pc 43 then some (.invokestatic 80, 1, 0, 20122, none, none, []) else none)) else (bif Nat.beq pc 42 then some (.iaload, 0, 0, 0, none, none, []) else none))) else (bif Nat.ble 37 pc then (bif Nat.ble 38 pc then (bif Nat.ble 41 pc then (bif Nat.beq pc 41 then some (.iload_n 1, 0, 0, 0, none, none, []) else none) else (bif Nat.beq pc 38 then some (.getfield 38, 3, 9, 60, none, none, []) else none)) else (bif Nat.beq pc 37 then some (.aload_n 0, 0, 0, 0, none, none, []) else none)) else (bif Nat.ble 36 pc then (bif Nat.beq pc 36 then some (.iaload, 0, 0, 0, none, none, []) else none) else (bif Nat.beq pc 35 then some (.iload_n 3, 0, 0, 0, none, none, []) else none))))) else (bif Nat.ble 16 pc then (bif Nat.ble 25 pc then (bif Nat.ble 30 pc then (bif Nat.ble 31 pc then (bif Nat.ble 32 pc then (bif Nat.beq pc 32 then some (.getfield 29, 3, 6, 52, none, none, []) else none) else (bif Nat.beq pc 31 then some (.aload_n 0, 0, 0, 0, none, none, []) else none)) else (bif Nat.beq pc 30 then some (.iaload, 0, 0, 0, none, none, []) else none)) else (bif Nat.ble 26 pc then (bif Nat.ble 29 pc then (bif Nat.beq pc 29 then some (.iload_n 3, 0, 0, 0, none, none, []) else none) else (bif Nat.beq pc 26 then some (.getfield 25, 3, 5, 49, none, none, []) else none)) else (bif Nat.beq pc 25 then some (.aload_n 0, 0, 0, 0, none, none, []) else none))) else (bif Nat.ble 18 pc then (bif Nat.ble 19 pc then (bif Nat.ble 22 pc then (bif Nat.beq pc 22 then some (.ifCond .eq 33, 55, 0, 0, none, some [0, 1, 2, 3], []) else none) else (bif Nat.beq pc 19 then some (.invokestatic 47, 64, 1, 10185, none, none, []) else none)) else (bif Nat.beq pc 18 then some (.iload_n 3, 0, 0, 0, none, none, []) else none)) else (bif Nat.ble 17 pc then (bif Nat.beq pc 17 then some (.iaload, 0, 0, 0, none, none, []) else none) else (bif Nat.beq pc 16 then some (.iload_n 1, 0, 0, 0, none, none, []) else none)))) else (bif Nat.ble 5 pc then (bif Nat.ble 9 pc then (bif Nat.ble 12 pc then (bif Nat.ble 13 pc then (bif Nat.beq pc 13 then some (.getfield 41, 3, 10, 63, none, none, []) else none) else (bif Nat.beq pc 12 then some (.aload_n 0, 0, 0, 0, none, none, []) else none)) else (bif Nat.beq pc 9 then some (.if_icmp .ge 52, 61, 0, 0, none, some [0, 1, 2], []) else none)) else (bif Nat.ble 6 pc then (bif Nat.beq pc 6 then some (.getfield 7, 3, 0, 36, none, none, []) else none) else (bif Nat.beq pc 5 then some (.aload_n 0, 0, 0, 0, none, none, []) else none))) else (bif Nat.ble 2 pc then (bif Nat.ble 3 pc then (bif Nat.ble 4 pc then (bif Nat.beq pc 4 then some (.iload_n 3, 0, 0, 0, none, none, []) else none) else (bif Nat.beq pc 3 then some (.istore_n 3, 0, 0, 0, some [0, 1, 2, 3], none, []) else none)) else (bif Nat.beq pc 2 then some (.iconst 0, 0, 0, 0, none, none, []) else none)) else (bif Nat.ble 1 pc then (bif Nat.beq pc 1 then some (.istore_n 2, 0, 0, 0, none, none, []) else none) else (bif Nat.beq pc 0 then some (.iconst 0, 0, 0, 0, none, none, []) else none)))))
abbrev k_Rail_isFixing : Nat := 27
noncomputable def tb_27 (pc : Nat) : Option am_I := bif Nat.ble 26 pc then (bif Nat.ble 41 pc then (bif Nat.ble 50 pc then (bif Nat.ble 54 pc then (bif Nat.ble 57 pc then (bif Nat.ble 58 pc then (bif Nat.beq pc 58 then some (.ireturn, 0, 0, 0, none, none, []) else none) else (bif Nat.beq pc 57 then some (.iconst 0, 0, 0, 0, some [], none, []) else none)) else (bif Nat.beq pc 54 then some (.goto 4, 58, 0, 0, none, some [], []) else none)) else (bif Nat.ble 53 pc then (bif Nat.beq pc 53 then some (.iconst 1, 0, 0, 0, none, none, []) else none) else (bif Nat.beq pc 50 then some (.ifCond .eq 7, 57, 0, 0, none, some [], []) else none))) else (bif Nat.ble 43 pc then (bif Nat.ble 46 pc then (bif Nat.ble 49 pc then (bif Nat.beq pc 49 then some (.iload_n 3, 0, 0, 0, none, none, []) else none) else (bif Nat.beq pc 46 then some (.ifCond .eq 11, 57, 0, 0, none, some [], []) else none)) else (bif Nat.beq pc 43 then some (.invokestatic 47, 64, 1, 10185, none, none, []) else none)) else (bif Nat.ble 42 pc then (bif Nat.beq pc 42 then some (.iload_n 2, 0, 0, 0, none, none, []) else none) else (bif Nat.beq pc 41 then some (.iaload, 0, 0, 0, none, none, []) else none)))) else (bif Nat.ble 30 pc then (bif Nat.ble 36 pc then (bif Nat.ble 37 pc then (bif Nat.ble 40 pc then (bif Nat.beq pc 40 then some (.iload_n 1, 0, 0, 0, none, none, []) else none) else (bif Nat.beq pc 37 then some (.getfield 44, 3, 11, 66, none, none, []) else none)) else (bif Nat.beq pc 36 then some (.aload_n 0, 0, 0, 0, none, none, []) else none)) else (bif Nat.ble 33 pc then (bif Nat.beq pc 33 then some (.ifCond .eq 24, 57, 0, 0, none, some [], []) else none) else (bif Nat.beq pc 30 then some (.invokevirtual 84, 19, 0, 10212, none, none, []) else none))) else (bif Nat.ble 28 pc then (bif Nat.ble 29 pc then (bif Nat.beq pc 29 then some (.iload_n 1, 0, 0, 0, none, none, []) else none) else (bif Nat.beq pc 28 then some (.aload_n 0, 0, 0, 0, none, none, []) else none)) else (bif Nat.ble 27 pc then (bif Nat.beq pc 27 then some (.istore_n 3, 0, 0, 0, none, none, []) else none) else (bif Nat.beq pc 26 then some (.iconst 0, 0, 0, 0, some [0, 1, 2], none, []) else none))))) else (bif Nat.ble 13 pc then (bif Nat.ble 17 pc then (bif Nat.ble 19 pc then (bif Nat.ble 22 pc then (bif Nat.ble 23 pc then (bif Nat.beq pc 23 then some (.goto 4, 27, 0, 0, none, some [0, 1, 2], []) else none) else (bif Nat.beq pc 22 then some (.iconst 1, 0, 0, 0, none, none, []) else none)) else (bif Nat.beq pc 19 then some (.ifCond .eq 7, 26, 0, 0, none, some [0, 1, 2], []) else none)) else (bif Nat.ble 18 pc then (bif Nat.beq pc 18 then some (.iand, 0, 0, 0, none, none, []) else none) else (bif Nat.beq pc 17 then some (.ixor, 0, 0, 0, none, none, []) else none))) else (bif Nat.ble 15 pc then (bif Nat.ble 16 pc then (bif Nat.beq pc 16 then some (.iconst (-1), 0, 0, 0, none, none, []) else none) else (bif Nat.beq pc 15 then some (.ishl, 0, 0, 0, none, none, []) else none)) else (bif Nat.ble 14 pc then (bif Nat.beq pc 14 then some (.iload_n 2, 0, 0, 0, none, none, []) else none) else (bif Nat.beq pc 13 then some (.iconst 1, 0, 0, 0, none, none, []) else none)))) else (bif Nat.ble 6 pc then (bif Nat.ble 10 pc then (bif Nat.ble 11 pc then (bif Nat.ble 12 pc then (bif Nat.beq pc 12 then some (.iand, 0, 0, 0, none, none, []) else none) else (bif Nat.beq pc 11 then some (.ixor, 0, 0, 0, none, none, []) else none)) else (bif Nat.beq pc 10 then some (.iconst (-1), 0, 0, 0, none, none, []) else none)) else (bif Nat.ble 7 pc then (bif Nat.beq pc 7 then some (.getfield 13, 3, 1, 39, none, none, []) else none) else (bif Nat.beq pc 6 then some (.aload_n 0, 0, 0, 0, none, none, []) else none))) else (bif Nat.ble 4 pc then (bif Nat.ble 5 pc then (bif Nat.beq pc 5 then some (.iaload, 0, 0, 0, none, none, []) else none) else (bif Nat.beq pc 4 then some (.iload_n 1, 0, 0, 0, none, none, []) else none)) else (bif Nat.ble 1 pc then (bif Nat.beq pc 1 then some (.getfield 41, 3, 10, 63, none, none, []) else none) else (bif Nat.beq pc 0 then some (.aload_n 0, 0, 0, 0, none, none, []) else none)))))
abbrev k_Rail_holders : Nat := 28
noncomputable def tb_28 (pc : Nat) : Option am_I := bif Nat.ble 23 pc then (bif Nat.ble 35 pc then (bif Nat.ble 41 pc then (bif Nat.ble 47 pc then (bif Nat.ble 48 pc then (bif Nat.beq pc 48 then some (.ireturn, 0, 0, 0, none, none, []) else none) else (bif Nat.beq pc 47 then some (.iload_n 2, 0, 0, 0, none, none, []) else none)) else (bif Nat.ble 44 pc then (bif Nat.beq pc 44 then some (.goto (-40), 4, 0, 0, none, some [0, 1, 2, 3], []) else none) else (bif Nat.beq pc 41 then some (.iinc 3 1, 0, 0, 0, none, none, []) else none))) else (bif Nat.ble 39 pc then (bif Nat.ble 40 pc then (bif Nat.beq pc 40 then some (.istore_n 2, 0, 0, 0, none, none, []) else none) else (bif Nat.beq pc 39 then some (.ior, 0, 0, 0, none, none, []) else none)) else (bif Nat.ble 38 pc then (bif Nat.beq pc 38 then some (.iconst 0, 0, 0, 0, some [0, 1, 3], none, []) else none) else (bif Nat.beq pc 35 then some (.goto 4, 39, 0, 0, none, some [0, 1, 3], []) else none)))) else (bif Nat.ble 29 pc then (bif Nat.ble 33 pc then (bif Nat.ble 34 pc then (bif Nat.beq pc 34 then some (.ishl, 0, 0, 0, none, none, []) else none) else (bif Nat.beq pc 33 then some (.iload_n 3, 0, 0, 0, none, none, []) else none)) else (bif Nat.ble 32 pc then (bif Nat.beq pc 32 then some (.iconst 1, 0, 0, 0, none, none, []) else none) else (bif Nat.beq pc 29 then some (.ifCond .eq 9, 38, 0, 0, none, some [0, 1, 3], []) else none))) else (bif Nat.ble 25 pc then (bif Nat.ble 26 pc then (bif Nat.beq pc 26 then some (.invokevirtual 87, 27, 0, 10208, none, none, []) else none) else (bif Nat.beq pc 25 then some (.iload_n 1, 0, 0, 0, none, none, []) else none)) else (bif Nat.ble 24 pc then (bif Nat.beq pc 24 then some (.iload_n 3, 0, 0, 0, none, none, []) else none) else (bif Nat.beq pc 23 then some (.aload_n 0, 0, 0, 0, none, none, []) else none))))) else (bif Nat.ble 9 pc then (bif Nat.ble 17 pc then (bif Nat.ble 19 pc then (bif Nat.ble 20 pc then (bif Nat.beq pc 20 then some (.if_icmp .eq 18, 38, 0, 0, none, some [0, 1, 3], []) else none) else (bif Nat.beq pc 19 then some (.iload_n 1, 0, 0, 0, none, none, []) else none)) else (bif Nat.ble 18 pc then (bif Nat.beq pc 18 then some (.iaload, 0, 0, 0, none, none, []) else none) else (bif Nat.beq pc 17 then some (.iload_n 3, 0, 0, 0, none, none, []) else none))) else (bif Nat.ble 13 pc then (bif Nat.ble 14 pc then (bif Nat.beq pc 14 then some (.getfield 35, 3, 8, 57, none, none, []) else none) else (bif Nat.beq pc 13 then some (.aload_n 0, 0, 0, 0, none, none, []) else none)) else (bif Nat.ble 12 pc then (bif Nat.beq pc 12 then some (.iload_n 2, 0, 0, 0, none, none, []) else none) else (bif Nat.beq pc 9 then some (.if_icmp .ge 38, 47, 0, 0, none, some [2], []) else none)))) else (bif Nat.ble 3 pc then (bif Nat.ble 5 pc then (bif Nat.ble 6 pc then (bif Nat.beq pc 6 then some (.getfield 16, 3, 2, 42, none, none, []) else none) else (bif Nat.beq pc 5 then some (.aload_n 0, 0, 0, 0, none, none, []) else none)) else (bif Nat.ble 4 pc then (bif Nat.beq pc 4 then some (.iload_n 3, 0, 0, 0, none, none, []) else none) else (bif Nat.beq pc 3 then some (.istore_n 3, 0, 0, 0, some [0, 1, 2, 3], none, []) else none))) else (bif Nat.ble 1 pc then (bif Nat.ble 2 pc then (bif Nat.beq pc 2 then some (.iconst 0, 0, 0, 0, none, none, []) else none) else (bif Nat.beq pc 1 then some (.istore_n 2, 0, 0, 0, none, none, []) else none)) else (bif Nat.beq pc 0 then some (.iconst 0, 0, 0, 0, none, none, []) else none))))
abbrev k_Rail_awaited : Nat := 29
noncomputable def tb_29 (pc : Nat) : Option am_I := bif Nat.ble 24 pc then (bif Nat.ble 39 pc then (bif Nat.ble 45 pc then (bif Nat.ble 51 pc then (bif Nat.ble 52 pc then (bif Nat.beq pc 52 then some (.ireturn, 0, 0, 0, none, none, []) else none) else (bif Nat.beq pc 51 then some (.iload_n 3, 0, 0, 0, none, none, []) else none)) else (bif Nat.ble 48 pc then (bif Nat.beq pc 48 then some (.goto (-37), 11, 0, 0, none, some [0, 2, 3, 4], []) else none) else (bif Nat.beq pc 45 then some (.iinc 4 1, 0, 0, 0, none, none, []) else none))) else (bif Nat.ble 43 pc then (bif Nat.ble 44 pc then (bif Nat.beq pc 44 then some (.istore_n 3, 0, 0, 0, none, none, []) else none) else (bif Nat.beq pc 43 then some (.ior, 0, 0, 0, none, none, []) else none)) else (bif Nat.ble 42 pc then (bif Nat.beq pc 42 then some (.iconst 0, 0, 0, 0, some [0, 2, 4], none, []) else none) else (bif Nat.beq pc 39 then some (.goto 4, 43, 0, 0, none, some [0, 2, 4], []) else none)))) else (bif Nat.ble 32 pc then (bif Nat.ble 37 pc then (bif Nat.ble 38 pc then (bif Nat.beq pc 38 then some (.ishl, 0, 0, 0, none, none, []) else none) else (bif Nat.beq pc 37 then some (.iaload, 0, 0, 0, none, none, []) else none)) else (bif Nat.ble 35 pc then (bif Nat.beq pc 35 then some (.iload 4, 0, 0, 0, none, none, []) else none) else (bif Nat.beq pc 32 then some (.getfield 35, 3, 8, 57, none, none, []) else none))) else (bif Nat.ble 30 pc then (bif Nat.ble 31 pc then (bif Nat.beq pc 31 then some (.aload_n 0, 0, 0, 0, none, none, []) else none) else (bif Nat.beq pc 30 then some (.iconst 1, 0, 0, 0, none, none, []) else none)) else (bif Nat.ble 27 pc then (bif Nat.beq pc 27 then some (.ifCond .eq 15, 42, 0, 0, none, some [0, 2, 4], []) else none) else (bif Nat.beq pc 24 then some (.invokestatic 47, 64, 1, 10185, none, none, []) else none))))) else (bif Nat.ble 9 pc then (bif Nat.ble 17 pc then (bif Nat.ble 21 pc then (bif Nat.ble 22 pc then (bif Nat.beq pc 22 then some (.iload 4, 0, 0, 0, none, none, []) else none) else (bif Nat.beq pc 21 then some (.iload_n 2, 0, 0, 0, none, none, []) else none)) else (bif Nat.ble 20 pc then (bif Nat.beq pc 20 then some (.iload_n 3, 0, 0, 0, none, none, []) else none) else (bif Nat.beq pc 17 then some (.if_icmp .ge 34, 51, 0, 0, none, some [3], []) else none))) else (bif Nat.ble 13 pc then (bif Nat.ble 14 pc then (bif Nat.beq pc 14 then some (.getfield 16, 3, 2, 42, none, none, []) else none) else (bif Nat.beq pc 13 then some (.aload_n 0, 0, 0, 0, none, none, []) else none)) else (bif Nat.ble 11 pc then (bif Nat.beq pc 11 then some (.iload 4, 0, 0, 0, none, none, []) else none) else (bif Nat.beq pc 9 then some (.istore 4, 0, 0, 0, some [0, 2, 3, 4], none, []) else none)))) else (bif Nat.ble 5 pc then (bif Nat.ble 7 pc then (bif Nat.ble 8 pc then (bif Nat.beq pc 8 then some (.iconst 0, 0, 0, 0, none, none, []) else none) else (bif Nat.beq pc 7 then some (.istore_n 3, 0, 0, 0, none, none, []) else none)) else (bif Nat.ble 6 pc then (bif Nat.beq pc 6 then some (.iconst 0, 0, 0, 0, none, none, []) else none) else (bif Nat.beq pc 5 then some (.istore_n 2, 0, 0, 0, none, none, []) else none))) else (bif Nat.ble 1 pc then (bif Nat.ble 2 pc then (bif Nat.beq pc 2 then some (.invokevirtual 90, 28, 0, 20029, none, none, []) else none) else (bif Nat.beq pc 1 then some (.iload_n 1, 0, 0, 0, none, none, []) else none)) else (bif Nat.beq pc 0 then some (.aload_n 0, 0, 0, 0, none, none, []) else none))))
abbrev k_Rail_canGo : Nat := 30
noncomputable def tb_30 (pc : Nat) : Option am_I := bif Nat.ble 63 pc then (bif Nat.ble 92 pc then (bif Nat.ble 107 pc then (bif Nat.ble 111 pc then (bif Nat.ble 113 pc then (bif Nat.ble 114 pc then (bif Nat.ble 115 pc then (bif Nat.beq pc 115 then some (.ireturn, 0, 0, 0, none, none, []) else none) else (bif Nat.beq pc 114 then some (.iand, 0, 0, 0, none, none, []) else none)) else (bif Nat.beq pc 113 then some (.ixor, 0, 0, 0, none, none, []) else none)) else (bif Nat.ble 112 pc then (bif Nat.beq pc 112 then some (.iconst (-1), 0, 0, 0, none, none, []) else none) else (bif Nat.beq pc 111 then some (.iload_n 3, 0, 0, 0, none, none, []) else none))) else (bif Nat.ble 109 pc then (bif Nat.ble 110 pc then (bif Nat.beq pc 110 then some (.iand, 0, 0, 0, none, none, []) else none) else (bif Nat.beq pc 109 then some (.ixor, 0, 0, 0, none, none, []) else none)) else (bif Nat.ble 108 pc then (bif Nat.beq pc 108 then some (.iconst (-1), 0, 0, 0, none, none, []) else none) else (bif Nat.beq pc 107 then some (.iload_n 1, 0, 0, 0, none, none, []) else none)))) else (bif Nat.ble 96 pc then (bif Nat.ble 100 pc then (bif Nat.ble 103 pc then (bif Nat.ble 104 pc then (bif Nat.beq pc 104 then some (.invokevirtual 60, 21, 0, 10221, none, none, []) else none) else (bif Nat.beq pc 103 then some (.aload_n 0, 0, 0, 0, none, none, []) else none)) else (bif Nat.beq pc 100 then some (.goto (-95), 5, 0, 0, none, some [0, 1, 2, 3, 4], []) else none)) else (bif Nat.ble 97 pc then (bif Nat.beq pc 97 then some (.iinc 4 1, 0, 0, 0, none, none, []) else none) else (bif Nat.beq pc 96 then some (.istore_n 3, 0, 0, 0, some [0, 1, 2, 3, 4], none, []) else none))) else (bif Nat.ble 94 pc then (bif Nat.ble 95 pc then (bif Nat.beq pc 95 then some (.ior, 0, 0, 0, none, none, []) else none) else (bif Nat.beq pc 94 then some (.iand, 0, 0, 0, none, none, []) else none)) else (bif Nat.ble 93 pc then (bif Nat.beq pc 93 then some (.ixor, 0, 0, 0, none, none, []) else none) else (bif Nat.beq pc 92 then some (.iconst (-1), 0, 0, 0, none, none, []) else none))))) else (bif Nat.ble 77 pc then (bif Nat.ble 84 pc then (bif Nat.ble 88 pc then (bif Nat.ble 90 pc then (bif Nat.ble 91 pc then (bif Nat.beq pc 91 then some (.ishl, 0, 0, 0, none, none, []) else none) else (bif Nat.beq pc 90 then some (.iaload, 0, 0, 0, none, none, []) else none)) else (bif Nat.beq pc 88 then some (.iload 4, 0, 0, 0, none, none, []) else none)) else (bif Nat.ble 85 pc then (bif Nat.beq pc 85 then some (.getfield 35, 3, 8, 57, none, none, []) else none) else (bif Nat.beq pc 84 then some (.aload_n 0, 0, 0, 0, none, none, []) else none))) else (bif Nat.ble 82 pc then (bif Nat.ble 83 pc then (bif Nat.beq pc 83 then some (.iconst 1, 0, 0, 0, none, none, []) else none) else (bif Nat.beq pc 82 then some (.iaload, 0, 0, 0, none, none, []) else none)) else (bif Nat.ble 80 pc then (bif Nat.beq pc 80 then some (.iload 4, 0, 0, 0, none, none, []) else none) else (bif Nat.beq pc 77 then some (.getfield 44, 3, 11, 66, none, none, []) else none)))) else (bif Nat.ble 70 pc then (bif Nat.ble 75 pc then (bif Nat.ble 76 pc then (bif Nat.beq pc 76 then some (.aload_n 0, 0, 0, 0, none, none, []) else none) else (bif Nat.beq pc 75 then some (.iload_n 3, 0, 0, 0, none, none, []) else none)) else (bif Nat.ble 72 pc then (bif Nat.beq pc 72 then some (.ifCond .eq 25, 97, 0, 0, none, some [0, 1, 2, 3, 4], []) else none) else (bif Nat.beq pc 70 then some (.iload 6, 0, 0, 0, none, none, []) else none))) else (bif Nat.ble 67 pc then (bif Nat.ble 68 pc then (bif Nat.beq pc 68 then some (.istore 6, 0, 0, 0, none, none, []) else none) else (bif Nat.beq pc 67 then some (.iconst 0, 0, 0, 0, some [0, 1, 2, 3, 4], none, []) else none)) else (bif Nat.ble 64 pc then (bif Nat.beq pc 64 then some (.goto 4, 68, 0, 0, none, some [0, 1, 2, 3, 4], []) else none) else (bif Nat.beq pc 63 then some (.iconst 1, 0, 0, 0, none, none, []) else none)))))) else (bif Nat.ble 31 pc then (bif Nat.ble 49 pc then (bif Nat.ble 55 pc then (bif Nat.ble 58 pc then (bif Nat.ble 59 pc then (bif Nat.ble 60 pc then (bif Nat.beq pc 60 then some (.ifCond .eq 7, 67, 0, 0, none, some [0, 1, 2, 3, 4], []) else none) else (bif Nat.beq pc 59 then some (.iand, 0, 0, 0, none, none, []) else none)) else (bif Nat.beq pc 58 then some (.isub, 0, 0, 0, none, none, []) else none)) else (bif Nat.ble 57 pc then (bif Nat.beq pc 57 then some (.iconst 1, 0, 0, 0, none, none, []) else none) else (bif Nat.beq pc 55 then some (.iload 5, 0, 0, 0, none, none, []) else none))) else (bif Nat.ble 51 pc then (bif Nat.ble 53 pc then (bif Nat.beq pc 53 then some (.iload 5, 0, 0, 0, none, none, []) else none) else (bif Nat.beq pc 51 then some (.istore 5, 0, 0, 0, none, none, []) else none)) else (bif Nat.ble 50 pc then (bif Nat.beq pc 50 then some (.iand, 0, 0, 0, none, none, []) else none) else (bif Nat.beq pc 49 then some (.ixor, 0, 0, 0, none, none, []) else none)))) else (bif Nat.ble 41 pc then (bif Nat.ble 46 pc then (bif Nat.ble 47 pc then (bif Nat.ble 48 pc then (bif Nat.beq pc 48 then some (.iconst (-1), 0, 0, 0, none, none, []) else none) else (bif Nat.beq pc 47 then some (.iload_n 1, 0, 0, 0, none, none, []) else none)) else (bif Nat.beq pc 46 then some (.iaload, 0, 0, 0, none, none, []) else none)) else (bif Nat.ble 44 pc then (bif Nat.beq pc 44 then some (.iload 4, 0, 0, 0, none, none, []) else none) else (bif Nat.beq pc 41 then some (.getfield 41, 3, 10, 63, none, none, []) else none))) else (bif Nat.ble 37 pc then (bif Nat.ble 40 pc then (bif Nat.beq pc 40 then some (.aload_n 0, 0, 0, 0, none, none, []) else none) else (bif Nat.beq pc 37 then some (.goto 60, 97, 0, 0, none, some [0, 1, 2, 3, 4], []) else none)) else (bif Nat.ble 34 pc then (bif Nat.beq pc 34 then some (.ifCond .eq 6, 40, 0, 0, none, some [0, 1, 2, 3, 4], []) else none) else (bif Nat.beq pc 31 then some (.invokestatic 47, 64, 1, 10185, none, none, []) else none))))) else (bif Nat.ble 14 pc then (bif Nat.ble 23 pc then (bif Nat.ble 25 pc then (bif Nat.ble 28 pc then (bif Nat.ble 30 pc then (bif Nat.beq pc 30 then some (.iaload, 0, 0, 0, none, none, []) else none) else (bif Nat.beq pc 28 then some (.iload 4, 0, 0, 0, none, none, []) else none)) else (bif Nat.beq pc 25 then some (.getfield 35, 3, 8, 57, none, none, []) else none)) else (bif Nat.ble 24 pc then (bif Nat.beq pc 24 then some (.aload_n 0, 0, 0, 0, none, none, []) else none) else (bif Nat.beq pc 23 then some (.iload_n 1, 0, 0, 0, none, none, []) else none))) else (bif Nat.ble 17 pc then (bif Nat.ble 20 pc then (bif Nat.beq pc 20 then some (.ifCond .ne 77, 97, 0, 0, none, some [0, 1, 2, 3, 4], []) else none) else (bif Nat.beq pc 17 then some (.invokestatic 47, 64, 1, 10185, none, none, []) else none)) else (bif Nat.ble 15 pc then (bif Nat.beq pc 15 then some (.iload 4, 0, 0, 0, none, none, []) else none) else (bif Nat.beq pc 14 then some (.iload_n 2, 0, 0, 0, none, none, []) else none)))) else (bif Nat.ble 5 pc then (bif Nat.ble 8 pc then (bif Nat.ble 11 pc then (bif Nat.beq pc 11 then some (.if_icmp .ge 92, 103, 0, 0, none, some [0, 1, 3], []) else none) else (bif Nat.beq pc 8 then some (.getfield 16, 3, 2, 42, none, none, []) else none)) else (bif Nat.ble 7 pc then (bif Nat.beq pc 7 then some (.aload_n 0, 0, 0, 0, none, none, []) else none) else (bif Nat.beq pc 5 then some (.iload 4, 0, 0, 0, none, none, []) else none))) else (bif Nat.ble 2 pc then (bif Nat.ble 3 pc then (bif Nat.beq pc 3 then some (.istore 4, 0, 0, 0, some [0, 1, 2, 3, 4], none, []) else none) else (bif Nat.beq pc 2 then some (.iconst 0, 0, 0, 0, none, none, []) else none)) else (bif Nat.ble 1 pc then (bif Nat.beq pc 1 then some (.istore_n 3, 0, 0, 0, none, none, []) else none) else (bif Nat.beq pc 0 then some (.iconst 0, 0, 0, 0, none, none, []) else none))))))
abbrev k_Rail_goneAtLast : Nat := 31
noncomputable def tb_31 (pc : Nat) : Option am_I := bif Nat.ble 20 pc then (bif Nat.ble 35 pc then (bif Nat.ble 39 pc then (bif Nat.ble 45 pc then (bif Nat.ble 46 pc then (bif Nat.beq pc 46 then some (.ireturn, 0, 0, 0, none, none, []) else none) else (bif Nat.beq pc 45 then some (.iload_n 2, 0, 0, 0, none, none, []) else none)) else (bif Nat.ble 42 pc then (bif Nat.beq pc 42 then some (.goto (-35), 7, 0, 0, none, some [0, 1, 2, 3], []) else none) else (bif Nat.beq pc 39 then some (.iinc 3 1, 0, 0, 0, none, none, []) else none))) else (bif Nat.ble 37 pc then (bif Nat.ble 38 pc then (bif Nat.beq pc 38 then some (.istore_n 2, 0, 0, 0, none, none, []) else none) else (bif Nat.beq pc 37 then some (.ior, 0, 0, 0, none, none, []) else none)) else (bif Nat.beq pc 35 then some (.iload 4, 0, 0, 0, none, none, []) else none))) else (bif Nat.ble 26 pc then (bif Nat.ble 31 pc then (bif Nat.ble 34 pc then (bif Nat.beq pc 34 then some (.iload_n 2, 0, 0, 0, none, none, []) else none) else (bif Nat.beq pc 31 then some (.goto 14, 45, 0, 0, none, some [2], []) else none)) else (bif Nat.ble 28 pc then (bif Nat.beq pc 28 then some (.ifCond .ne 6, 34, 0, 0, none, some [0, 1, 2, 3, 4], []) else none) else (bif Nat.beq pc 26 then some (.iload 4, 0, 0, 0, none, none, []) else none))) else (bif Nat.ble 23 pc then (bif Nat.ble 24 pc then (bif Nat.beq pc 24 then some (.istore 4, 0, 0, 0, none, none, []) else none) else (bif Nat.beq pc 23 then some (.iand, 0, 0, 0, none, none, []) else none)) else (bif Nat.beq pc 20 then some (.getfield 22, 3, 4, 47, none, none, []) else none)))) else (bif Nat.ble 8 pc then (bif Nat.ble 14 pc then (bif Nat.ble 16 pc then (bif Nat.ble 19 pc then (bif Nat.beq pc 19 then some (.aload_n 0, 0, 0, 0, none, none, []) else none) else (bif Nat.beq pc 16 then some (.invokevirtual 94, 30, 0, 20039, none, none, []) else none)) else (bif Nat.ble 15 pc then (bif Nat.beq pc 15 then some (.iload_n 1, 0, 0, 0, none, none, []) else none) else (bif Nat.beq pc 14 then some (.iload_n 2, 0, 0, 0, none, none, []) else none))) else (bif Nat.ble 10 pc then (bif Nat.ble 13 pc then (bif Nat.beq pc 13 then some (.aload_n 0, 0, 0, 0, none, none, []) else none) else (bif Nat.beq pc 10 then some (.if_icmp .ge 35, 45, 0, 0, none, some [2], []) else none)) else (bif Nat.beq pc 8 then some (.bipush 8, 0, 0, 0, none, none, []) else none))) else (bif Nat.ble 5 pc then (bif Nat.ble 6 pc then (bif Nat.ble 7 pc then (bif Nat.beq pc 7 then some (.iload_n 3, 0, 0, 0, none, none, []) else none) else (bif Nat.beq pc 6 then some (.istore_n 3, 0, 0, 0, some [0, 1, 2, 3], none, []) else none)) else (bif Nat.beq pc 5 then some (.iconst 0, 0, 0, 0, none, none, []) else none)) else (bif Nat.ble 1 pc then (bif Nat.ble 4 pc then (bif Nat.beq pc 4 then some (.istore_n 2, 0, 0, 0, none, none, []) else none) else (bif Nat.beq pc 1 then some (.getfield 13, 3, 1, 39, none, none, []) else none)) else (bif Nat.beq pc 0 then some (.aload_n 0, 0, 0, 0, none, none, []) else none))))
abbrev k_Read_init : Nat := 32
noncomputable def tb_32 (pc : Nat) : Option am_I := bif Nat.ble 27 pc then (bif Nat.ble 41 pc then (bif Nat.ble 47 pc then (bif Nat.ble 52 pc then (bif Nat.ble 55 pc then (bif Nat.beq pc 55 then some (.return_, 0, 0, 0, none, none, []) else none) else (bif Nat.beq pc 52 then some (.putfield 36, 4, 8, 115, none, none, []) else none)) else (bif Nat.ble 50 pc then (bif Nat.beq pc 50 then some (.newarray .int, 0, 0, 0, none, none, []) else none) else (bif Nat.beq pc 47 then some (.sipush 160, 0, 0, 0, none, none, []) else none))) else (bif Nat.ble 43 pc then (bif Nat.ble 46 pc then (bif Nat.beq pc 46 then some (.aload_n 0, 0, 0, 0, none, none, []) else none) else (bif Nat.beq pc 43 then some (.putfield 32, 4, 7, 114, none, none, []) else none)) else (bif Nat.ble 42 pc then (bif Nat.beq pc 42 then some (.aconst_null, 0, 0, 0, none, none, []) else none) else (bif Nat.beq pc 41 then some (.aload_n 0, 0, 0, 0, none, none, []) else none)))) else (bif Nat.ble 33 pc then (bif Nat.ble 37 pc then (bif Nat.ble 38 pc then (bif Nat.beq pc 38 then some (.putfield 29, 4, 6, 113, none, none, []) else none) else (bif Nat.beq pc 37 then some (.iconst 0, 0, 0, 0, none, none, []) else none)) else (bif Nat.ble 36 pc then (bif Nat.beq pc 36 then some (.aload_n 0, 0, 0, 0, none, none, []) else none) else (bif Nat.beq pc 33 then some (.putfield 25, 4, 5, 112, none, none, []) else none))) else (bif Nat.ble 31 pc then (bif Nat.ble 32 pc then (bif Nat.beq pc 32 then some (.iconst 0, 0, 0, 0, none, none, []) else none) else (bif Nat.beq pc 31 then some (.aload_n 0, 0, 0, 0, none, none, []) else none)) else (bif Nat.ble 28 pc then (bif Nat.beq pc 28 then some (.putfield 22, 4, 4, 111, none, none, []) else none) else (bif Nat.beq pc 27 then some (.iconst 0, 0, 0, 0, none, none, []) else none))))) else (bif Nat.ble 11 pc then (bif Nat.ble 19 pc then (bif Nat.ble 23 pc then (bif Nat.ble 26 pc then (bif Nat.beq pc 26 then some (.aload_n 0, 0, 0, 0, none, none, []) else none) else (bif Nat.beq pc 23 then some (.putfield 19, 4, 3, 110, none, none, []) else none)) else (bif Nat.ble 20 pc then (bif Nat.beq pc 20 then some (.sipush 308, 0, 0, 0, none, none, []) else none) else (bif Nat.beq pc 19 then some (.aload_n 0, 0, 0, 0, none, none, []) else none))) else (bif Nat.ble 15 pc then (bif Nat.ble 16 pc then (bif Nat.beq pc 16 then some (.putfield 16, 4, 2, 109, none, none, []) else none) else (bif Nat.beq pc 15 then some (.iconst 0, 0, 0, 0, none, none, []) else none)) else (bif Nat.ble 14 pc then (bif Nat.beq pc 14 then some (.aload_n 0, 0, 0, 0, none, none, []) else none) else (bif Nat.beq pc 11 then some (.putfield 13, 4, 1, 107, none, none, []) else none)))) else (bif Nat.ble 5 pc then (bif Nat.ble 9 pc then (bif Nat.ble 10 pc then (bif Nat.beq pc 10 then some (.iconst 0, 0, 0, 0, none, none, []) else none) else (bif Nat.beq pc 9 then some (.aload_n 0, 0, 0, 0, none, none, []) else none)) else (bif Nat.ble 6 pc then (bif Nat.beq pc 6 then some (.putfield 7, 4, 0, 105, none, none, []) else none) else (bif Nat.beq pc 5 then some (.iconst 0, 0, 0, 0, none, none, []) else none))) else (bif Nat.ble 1 pc then (bif Nat.ble 4 pc then (bif Nat.beq pc 4 then some (.aload_n 0, 0, 0, 0, none, none, []) else none) else (bif Nat.beq pc 1 then some (.invokespecial 1, 9999, 0, 104, none, none, []) else none)) else (bif Nat.beq pc 0 then some (.aload_n 0, 0, 0, 0, none, none, []) else none))))
abbrev k_Read_append : Nat := 33
noncomputable def tb_33 (pc : Nat) : Option am_I := bif Nat.ble 18 pc then (bif Nat.ble 22 pc then (bif Nat.ble 26 pc then (bif Nat.ble 27 pc then (bif Nat.ble 30 pc then (bif Nat.beq pc 30 then some (.return_, 0, 0, 0, none, none, []) else none) else (bif Nat.beq pc 27 then some (.putfield 7, 4, 0, 105, some [], none, []) else none)) else (bif Nat.beq pc 26 then some (.iadd, 0, 0, 0, none, none, []) else none)) else (bif Nat.ble 25 pc then (bif Nat.beq pc 25 then some (.iconst 1, 0, 0, 0, none, none, []) else none) else (bif Nat.beq pc 22 then some (.getfield 7, 4, 0, 105, none, none, []) else none))) else (bif Nat.ble 20 pc then (bif Nat.ble 21 pc then (bif Nat.beq pc 21 then some (.dup, 0, 0, 0, none, none, []) else none) else (bif Nat.beq pc 20 then some (.aload_n 0, 0, 0, 0, none, none, []) else none)) else (bif Nat.ble 19 pc then (bif Nat.beq pc 19 then some (.iastore, 0, 0, 0, none, none, []) else none) else (bif Nat.beq pc 18 then some (.iload_n 1, 0, 0, 0, none, none, []) else none)))) else (bif Nat.ble 10 pc then (bif Nat.ble 14 pc then (bif Nat.ble 15 pc then (bif Nat.beq pc 15 then some (.getfield 7, 4, 0, 105, none, none, []) else none) else (bif Nat.beq pc 14 then some (.aload_n 0, 0, 0, 0, none, none, []) else none)) else (bif Nat.ble 11 pc then (bif Nat.beq pc 11 then some (.getfield 36, 4, 8, 115, none, none, []) else none) else (bif Nat.beq pc 10 then some (.aload_n 0, 0, 0, 0, none, none, []) else none))) else (bif Nat.ble 4 pc then (bif Nat.ble 7 pc then (bif Nat.beq pc 7 then some (.if_icmp .ge 23, 30, 0, 0, none, some [], []) else none) else (bif Nat.beq pc 4 then some (.sipush 160, 0, 0, 0, none, none, []) else none)) else (bif Nat.ble 1 pc then (bif Nat.beq pc 1 then some (.getfield 7, 4, 0, 105, none, none, []) else none) else (bif Nat.beq pc 0 then some (.aload_n 0, 0, 0, 0, none, none, []) else none))))
abbrev k_Read_read : Nat := 34
noncomputable def tb_34 (pc : Nat) : Option am_I := bif Nat.ble 43 pc then (bif Nat.ble 69 pc then (bif Nat.ble 84 pc then (bif Nat.ble 91 pc then (bif Nat.ble 95 pc then (bif Nat.ble 96 pc then (bif Nat.beq pc 96 then some (.ireturn, 0, 0, 0, none, none, []) else none) else (bif Nat.beq pc 95 then some (.iconst 0, 0, 0, 0, some [], none, []) else none)) else (bif Nat.ble 92 pc then (bif Nat.beq pc 92 then some (.goto 4, 96, 0, 0, none, some [], []) else none) else (bif Nat.beq pc 91 then some (.iconst 1, 0, 0, 0, none, none, []) else none))) else (bif Nat.ble 85 pc then (bif Nat.ble 88 pc then (bif Nat.beq pc 88 then some (.ifCond .ne 7, 95, 0, 0, none, some [], []) else none) else (bif Nat.beq pc 85 then some (.getfield 25, 4, 5, 112, none, none, []) else none)) else (bif Nat.beq pc 84 then some (.aload_n 0, 0, 0, 0, none, none, []) else none))) else (bif Nat.ble 76 pc then (bif Nat.ble 80 pc then (bif Nat.ble 81 pc then (bif Nat.beq pc 81 then some (.putfield 7, 4, 0, 105, none, none, []) else none) else (bif Nat.beq pc 80 then some (.iconst 0, 0, 0, 0, none, none, []) else none)) else (bif Nat.ble 79 pc then (bif Nat.beq pc 79 then some (.aload_n 0, 0, 0, 0, none, none, []) else none) else (bif Nat.beq pc 76 then some (.invokevirtual 50, 35, 0, 10040, some [0], none, []) else none))) else (bif Nat.ble 72 pc then (bif Nat.ble 75 pc then (bif Nat.beq pc 75 then some (.aload_n 0, 0, 0, 0, none, none, []) else none) else (bif Nat.beq pc 72 then some (.if_icmp .eq 7, 79, 0, 0, none, some [0], []) else none)) else (bif Nat.beq pc 69 then some (.sipush 308, 0, 0, 0, none, none, []) else none)))) else (bif Nat.ble 54 pc then (bif Nat.ble 59 pc then (bif Nat.ble 65 pc then (bif Nat.ble 66 pc then (bif Nat.beq pc 66 then some (.getfield 19, 4, 3, 110, none, none, []) else none) else (bif Nat.beq pc 65 then some (.aload_n 0, 0, 0, 0, none, none, []) else none)) else (bif Nat.ble 62 pc then (bif Nat.beq pc 62 then some (.goto (-36), 26, 0, 0, none, some [0, 2, 3], []) else none) else (bif Nat.beq pc 59 then some (.iinc 3 1, 0, 0, 0, none, none, []) else none))) else (bif Nat.ble 55 pc then (bif Nat.ble 58 pc then (bif Nat.beq pc 58 then some (.iastore, 0, 0, 0, none, none, []) else none) else (bif Nat.beq pc 55 then some (.getfield 29, 4, 6, 113, none, none, []) else none)) else (bif Nat.beq pc 54 then some (.aload_n 0, 0, 0, 0, none, none, []) else none))) else (bif Nat.ble 49 pc then (bif Nat.ble 52 pc then (bif Nat.ble 53 pc then (bif Nat.beq pc 53 then some (.iload_n 3, 0, 0, 0, none, none, []) else none) else (bif Nat.beq pc 52 then some (.aload_n 2, 0, 0, 0, none, none, []) else none)) else (bif Nat.beq pc 49 then some (.invokevirtual 42, 36, 0, 10036, none, none, []) else none)) else (bif Nat.ble 46 pc then (bif Nat.ble 47 pc then (bif Nat.beq pc 47 then some (.bipush 59, 0, 0, 0, none, none, []) else none) else (bif Nat.beq pc 46 then some (.aload_n 0, 0, 0, 0, none, none, []) else none)) else (bif Nat.beq pc 43 then some (.invokevirtual 46, 38, 0, 10044, none, none, []) else none))))) else (bif Nat.ble 21 pc then (bif Nat.ble 32 pc then (bif Nat.ble 37 pc then (bif Nat.ble 41 pc then (bif Nat.ble 42 pc then (bif Nat.beq pc 42 then some (.iconst 0, 0, 0, 0, none, none, []) else none) else (bif Nat.beq pc 41 then some (.iconst 0, 0, 0, 0, none, none, []) else none)) else (bif Nat.ble 40 pc then (bif Nat.beq pc 40 then some (.aload_n 0, 0, 0, 0, none, none, []) else none) else (bif Nat.beq pc 37 then some (.invokevirtual 42, 36, 0, 10036, none, none, []) else none))) else (bif Nat.ble 35 pc then (bif Nat.ble 36 pc then (bif Nat.beq pc 36 then some (.iadd, 0, 0, 0, none, none, []) else none) else (bif Nat.beq pc 35 then some (.iload_n 3, 0, 0, 0, none, none, []) else none)) else (bif Nat.beq pc 32 then some (.sipush 300, 0, 0, 0, none, none, []) else none))) else (bif Nat.ble 26 pc then (bif Nat.ble 28 pc then (bif Nat.ble 31 pc then (bif Nat.beq pc 31 then some (.aload_n 0, 0, 0, 0, none, none, []) else none) else (bif Nat.beq pc 28 then some (.if_icmp .ge 37, 65, 0, 0, none, some [0], []) else none)) else (bif Nat.ble 27 pc then (bif Nat.beq pc 27 then some (.iconst 3, 0, 0, 0, none, none, []) else none) else (bif Nat.beq pc 26 then some (.iload_n 3, 0, 0, 0, none, none, []) else none))) else (bif Nat.ble 24 pc then (bif Nat.ble 25 pc then (bif Nat.beq pc 25 then some (.istore_n 3, 0, 0, 0, some [0, 2, 3], none, []) else none) else (bif Nat.beq pc 24 then some (.iconst 0, 0, 0, 0, none, none, []) else none)) else (bif Nat.beq pc 21 then some (.invokevirtual 39, 41, 0, 194, none, none, []) else none)))) else (bif Nat.ble 10 pc then (bif Nat.ble 15 pc then (bif Nat.ble 17 pc then (bif Nat.ble 20 pc then (bif Nat.beq pc 20 then some (.aload_n 0, 0, 0, 0, none, none, []) else none) else (bif Nat.beq pc 17 then some (.putfield 25, 4, 5, 112, none, none, []) else none)) else (bif Nat.ble 16 pc then (bif Nat.beq pc 16 then some (.iconst 0, 0, 0, 0, none, none, []) else none) else (bif Nat.beq pc 15 then some (.aload_n 0, 0, 0, 0, none, none, []) else none))) else (bif Nat.ble 11 pc then (bif Nat.ble 12 pc then (bif Nat.beq pc 12 then some (.putfield 16, 4, 2, 109, none, none, []) else none) else (bif Nat.beq pc 11 then some (.iconst 0, 0, 0, 0, none, none, []) else none)) else (bif Nat.beq pc 10 then some (.aload_n 0, 0, 0, 0, none, none, []) else none))) else (bif Nat.ble 5 pc then (bif Nat.ble 6 pc then (bif Nat.ble 7 pc then (bif Nat.beq pc 7 then some (.putfield 29, 4, 6, 113, none, none, []) else none) else (bif Nat.beq pc 6 then some (.iconst 0, 0, 0, 0, none, none, []) else none)) else (bif Nat.beq pc 5 then some (.aload_n 0, 0, 0, 0, none, none, []) else none)) else (bif Nat.ble 1 pc then (bif Nat.ble 2 pc then (bif Nat.beq pc 2 then some (.putfield 32, 4, 7, 114, none, none, []) else none) else (bif Nat.beq pc 1 then some (.aload_n 1, 0, 0, 0, none, none, []) else none)) else (bif Nat.beq pc 0 then some (.aload_n 0, 0, 0, 0, none, none, []) else none)))))
abbrev k_Read_refuse : Nat := 35
noncomputable def tb_35 (pc : Nat) : Option am_I := bif Nat.ble 5 pc then (bif Nat.ble 9 pc then (bif Nat.ble 12 pc then (bif Nat.beq pc 12 then some (.return_, 0, 0, 0, none, none, []) else none) else (bif Nat.beq pc 9 then some (.putfield 19, 4, 3, 110, none, none, []) else none)) else (bif Nat.ble 6 pc then (bif Nat.beq pc 6 then some (.sipush 309, 0, 0, 0, none, none, []) else none) else (bif Nat.beq pc 5 then some (.aload_n 0, 0, 0, 0, none, none, []) else none))) else (bif Nat.ble 1 pc then (bif Nat.ble 2 pc then (bif Nat.beq pc 2 then some (.putfield 25, 4, 5, 112, none, none, []) else none) else (bif Nat.beq pc 1 then some (.iconst 1, 0, 0, 0, none, none, []) else none)) else (bif Nat.beq pc 0 then some (.aload_n 0, 0, 0, 0, none, none, []) else none))
abbrev k_Read_demand : Nat := 36
noncomputable def tb_36 (pc : Nat) : Option am_I := bif Nat.ble 9 pc then (bif Nat.ble 15 pc then (bif Nat.ble 16 pc then (bif Nat.ble 19 pc then (bif Nat.beq pc 19 then some (.return_, 0, 0, 0, none, none, []) else none) else (bif Nat.beq pc 16 then some (.invokevirtual 50, 35, 0, 10040, some [], none, []) else none)) else (bif Nat.beq pc 15 then some (.aload_n 0, 0, 0, 0, none, none, []) else none)) else (bif Nat.ble 12 pc then (bif Nat.beq pc 12 then some (.goto 7, 19, 0, 0, none, some [], []) else none) else (bif Nat.beq pc 9 then some (.invokevirtual 39, 41, 0, 194, none, none, []) else none))) else (bif Nat.ble 4 pc then (bif Nat.ble 5 pc then (bif Nat.ble 8 pc then (bif Nat.beq pc 8 then some (.aload_n 0, 0, 0, 0, none, none, []) else none) else (bif Nat.beq pc 5 then some (.if_icmp .ne 10, 15, 0, 0, none, some [0], []) else none)) else (bif Nat.beq pc 4 then some (.iload_n 1, 0, 0, 0, none, none, []) else none)) else (bif Nat.ble 1 pc then (bif Nat.beq pc 1 then some (.getfield 19, 4, 3, 110, none, none, []) else none) else (bif Nat.beq pc 0 then some (.aload_n 0, 0, 0, 0, none, none, []) else none)))
abbrev k_Read_write : Nat := 37
noncomputable def tb_37 (pc : Nat) : Option am_I := bif Nat.ble 23 pc then (bif Nat.ble 30 pc then (bif Nat.ble 35 pc then (bif Nat.ble 36 pc then (bif Nat.ble 39 pc then (bif Nat.beq pc 39 then some (.return_, 0, 0, 0, none, none, []) else none) else (bif Nat.beq pc 36 then some (.putfield 29, 4, 6, 113, some [], none, []) else none)) else (bif Nat.beq pc 35 then some (.iadd, 0, 0, 0, none, none, []) else none)) else (bif Nat.ble 31 pc then (bif Nat.ble 34 pc then (bif Nat.beq pc 34 then some (.iconst 1, 0, 0, 0, none, none, []) else none) else (bif Nat.beq pc 31 then some (.getfield 29, 4, 6, 113, none, none, []) else none)) else (bif Nat.beq pc 30 then some (.dup, 0, 0, 0, none, none, []) else none))) else (bif Nat.ble 27 pc then (bif Nat.ble 28 pc then (bif Nat.ble 29 pc then (bif Nat.beq pc 29 then some (.aload_n 0, 0, 0, 0, none, none, []) else none) else (bif Nat.beq pc 28 then some (.iastore, 0, 0, 0, none, none, []) else none)) else (bif Nat.beq pc 27 then some (.iload_n 1, 0, 0, 0, none, none, []) else none)) else (bif Nat.ble 24 pc then (bif Nat.beq pc 24 then some (.getfield 29, 4, 6, 113, none, none, []) else none) else (bif Nat.beq pc 23 then some (.aload_n 0, 0, 0, 0, none, none, []) else none)))) else (bif Nat.ble 11 pc then (bif Nat.ble 16 pc then (bif Nat.ble 19 pc then (bif Nat.ble 20 pc then (bif Nat.beq pc 20 then some (.getfield 32, 4, 7, 114, none, none, []) else none) else (bif Nat.beq pc 19 then some (.aload_n 0, 0, 0, 0, none, none, []) else none)) else (bif Nat.beq pc 16 then some (.if_icmp .ge 23, 39, 0, 0, none, some [], []) else none)) else (bif Nat.ble 12 pc then (bif Nat.ble 15 pc then (bif Nat.beq pc 15 then some (.arraylength, 0, 0, 0, none, none, []) else none) else (bif Nat.beq pc 12 then some (.getfield 32, 4, 7, 114, none, none, []) else none)) else (bif Nat.beq pc 11 then some (.aload_n 0, 0, 0, 0, none, none, []) else none))) else (bif Nat.ble 4 pc then (bif Nat.ble 7 pc then (bif Nat.ble 8 pc then (bif Nat.beq pc 8 then some (.getfield 29, 4, 6, 113, none, none, []) else none) else (bif Nat.beq pc 7 then some (.aload_n 0, 0, 0, 0, none, none, []) else none)) else (bif Nat.beq pc 4 then some (.ifnull 35, 39, 0, 0, none, some [], []) else none)) else (bif Nat.ble 1 pc then (bif Nat.beq pc 1 then some (.getfield 32, 4, 7, 114, none, none, []) else none) else (bif Nat.beq pc 0 then some (.aload_n 0, 0, 0, 0, none, none, []) else none))))
abbrev k_Read_expression : Nat := 38
noncomputable def tb_38 (pc : Nat) : Option am_I := bif Nat.ble 62 pc then (bif Nat.ble 96 pc then (bif Nat.ble 109 pc then (bif Nat.ble 116 pc then (bif Nat.ble 121 pc then (bif Nat.ble 124 pc then (bif Nat.ble 127 pc then (bif Nat.beq pc 127 then some (.return_, 0, 0, 0, none, none, []) else none) else (bif Nat.beq pc 124 then some (.goto (-39), 85, 0, 0, none, some [0, 1, 2, 3, 4, 5], []) else none)) else (bif Nat.beq pc 121 then some (.iinc 5 1, 0, 0, 0, none, none, []) else none)) else (bif Nat.ble 119 pc then (bif Nat.beq pc 119 then some (.istore 4, 0, 0, 0, none, none, []) else none) else (bif Nat.beq pc 116 then some (.invokevirtual 59, 39, 0, 10056, none, none, []) else none))) else (bif Nat.ble 114 pc then (bif Nat.ble 115 pc then (bif Nat.beq pc 115 then some (.iload_n 1, 0, 0, 0, none, none, []) else none) else (bif Nat.beq pc 114 then some (.aload_n 0, 0, 0, 0, none, none, []) else none)) else (bif Nat.ble 111 pc then (bif Nat.beq pc 111 then some (.invokevirtual 56, 37, 0, 10052, none, none, []) else none) else (bif Nat.beq pc 109 then some (.iload 4, 0, 0, 0, none, none, []) else none)))) else (bif Nat.ble 102 pc then (bif Nat.ble 104 pc then (bif Nat.ble 105 pc then (bif Nat.ble 108 pc then (bif Nat.beq pc 108 then some (.aload_n 0, 0, 0, 0, none, none, []) else none) else (bif Nat.beq pc 105 then some (.invokevirtual 46, 38, 0, 10044, none, none, []) else none)) else (bif Nat.beq pc 104 then some (.iload_n 2, 0, 0, 0, none, none, []) else none)) else (bif Nat.ble 103 pc then (bif Nat.beq pc 103 then some (.iadd, 0, 0, 0, none, none, []) else none) else (bif Nat.beq pc 102 then some (.iconst 1, 0, 0, 0, none, none, []) else none))) else (bif Nat.ble 100 pc then (bif Nat.ble 101 pc then (bif Nat.beq pc 101 then some (.iload_n 1, 0, 0, 0, none, none, []) else none) else (bif Nat.beq pc 100 then some (.aload_n 0, 0, 0, 0, none, none, []) else none)) else (bif Nat.ble 97 pc then (bif Nat.beq pc 97 then some (.invokevirtual 39, 41, 0, 194, none, none, []) else none) else (bif Nat.beq pc 96 then some (.aload_n 0, 0, 0, 0, none, none, []) else none))))) else (bif Nat.ble 77 pc then (bif Nat.ble 85 pc then (bif Nat.ble 88 pc then (bif Nat.ble 91 pc then (bif Nat.ble 93 pc then (bif Nat.beq pc 93 then some (.ifCond .eq 34, 127, 0, 0, none, some [], []) else none) else (bif Nat.beq pc 91 then some (.iload 4, 0, 0, 0, none, none, []) else none)) else (bif Nat.beq pc 88 then some (.if_icmp .ge 39, 127, 0, 0, none, some [], []) else none)) else (bif Nat.ble 87 pc then (bif Nat.beq pc 87 then some (.iload_n 3, 0, 0, 0, none, none, []) else none) else (bif Nat.beq pc 85 then some (.iload 5, 0, 0, 0, none, none, []) else none))) else (bif Nat.ble 82 pc then (bif Nat.ble 83 pc then (bif Nat.beq pc 83 then some (.istore 5, 0, 0, 0, some [0, 1, 2, 3, 4, 5], none, []) else none) else (bif Nat.beq pc 82 then some (.iconst 0, 0, 0, 0, none, none, []) else none)) else (bif Nat.ble 80 pc then (bif Nat.beq pc 80 then some (.istore 4, 0, 0, 0, none, none, []) else none) else (bif Nat.beq pc 77 then some (.invokevirtual 59, 39, 0, 10056, none, none, []) else none)))) else (bif Nat.ble 68 pc then (bif Nat.ble 74 pc then (bif Nat.ble 75 pc then (bif Nat.ble 76 pc then (bif Nat.beq pc 76 then some (.iload_n 1, 0, 0, 0, none, none, []) else none) else (bif Nat.beq pc 75 then some (.aload_n 0, 0, 0, 0, none, none, []) else none)) else (bif Nat.beq pc 74 then some (.istore_n 3, 0, 0, 0, none, none, []) else none)) else (bif Nat.ble 71 pc then (bif Nat.beq pc 71 then some (.sipush 160, 0, 0, 0, some [0, 1, 2], none, []) else none) else (bif Nat.beq pc 68 then some (.goto 6, 74, 0, 0, none, some [0, 1, 2], []) else none))) else (bif Nat.ble 64 pc then (bif Nat.ble 67 pc then (bif Nat.beq pc 67 then some (.iconst 1, 0, 0, 0, none, none, []) else none) else (bif Nat.beq pc 64 then some (.if_icmp .ne 7, 71, 0, 0, none, some [0, 1, 2], []) else none)) else (bif Nat.ble 63 pc then (bif Nat.beq pc 63 then some (.iconst 2, 0, 0, 0, none, none, []) else none) else (bif Nat.beq pc 62 then some (.iload_n 1, 0, 0, 0, none, none, []) else none)))))) else (bif Nat.ble 33 pc then (bif Nat.ble 46 pc then (bif Nat.ble 55 pc then (bif Nat.ble 57 pc then (bif Nat.ble 58 pc then (bif Nat.ble 59 pc then (bif Nat.beq pc 59 then some (.invokevirtual 46, 38, 0, 10044, none, none, []) else none) else (bif Nat.beq pc 58 then some (.iload_n 2, 0, 0, 0, none, none, []) else none)) else (bif Nat.beq pc 57 then some (.iadd, 0, 0, 0, none, none, []) else none)) else (bif Nat.ble 56 pc then (bif Nat.beq pc 56 then some (.iconst 1, 0, 0, 0, none, none, []) else none) else (bif Nat.beq pc 55 then some (.iload_n 1, 0, 0, 0, none, none, []) else none))) else (bif Nat.ble 51 pc then (bif Nat.ble 54 pc then (bif Nat.beq pc 54 then some (.aload_n 0, 0, 0, 0, none, none, []) else none) else (bif Nat.beq pc 51 then some (.goto 76, 127, 0, 0, none, some [], []) else none)) else (bif Nat.ble 48 pc then (bif Nat.beq pc 48 then some (.invokevirtual 56, 37, 0, 10052, none, none, []) else none) else (bif Nat.beq pc 46 then some (.bipush (-8), 0, 0, 0, none, none, []) else none)))) else (bif Nat.ble 39 pc then (bif Nat.ble 41 pc then (bif Nat.ble 42 pc then (bif Nat.ble 45 pc then (bif Nat.beq pc 45 then some (.aload_n 0, 0, 0, 0, none, none, []) else none) else (bif Nat.beq pc 42 then some (.invokevirtual 46, 38, 0, 10044, none, none, []) else none)) else (bif Nat.beq pc 41 then some (.iadd, 0, 0, 0, none, none, []) else none)) else (bif Nat.ble 40 pc then (bif Nat.beq pc 40 then some (.iconst 1, 0, 0, 0, none, none, []) else none) else (bif Nat.beq pc 39 then some (.iload_n 2, 0, 0, 0, none, none, []) else none))) else (bif Nat.ble 37 pc then (bif Nat.ble 38 pc then (bif Nat.beq pc 38 then some (.iconst 2, 0, 0, 0, none, none, []) else none) else (bif Nat.beq pc 37 then some (.aload_n 0, 0, 0, 0, none, none, []) else none)) else (bif Nat.ble 34 pc then (bif Nat.beq pc 34 then some (.invokevirtual 39, 41, 0, 194, none, none, []) else none) else (bif Nat.beq pc 33 then some (.aload_n 0, 0, 0, 0, none, none, []) else none))))) else (bif Nat.ble 14 pc then (bif Nat.ble 22 pc then (bif Nat.ble 28 pc then (bif Nat.ble 29 pc then (bif Nat.ble 30 pc then (bif Nat.beq pc 30 then some (.if_icmp .ge 24, 54, 0, 0, none, some [0, 1, 2], []) else none) else (bif Nat.beq pc 29 then some (.iconst 5, 0, 0, 0, none, none, []) else none)) else (bif Nat.beq pc 28 then some (.iload_n 2, 0, 0, 0, none, none, []) else none)) else (bif Nat.ble 25 pc then (bif Nat.beq pc 25 then some (.if_icmp .ne 29, 54, 0, 0, none, some [0, 1, 2], []) else none) else (bif Nat.beq pc 22 then some (.sipush 305, 0, 0, 0, none, none, []) else none))) else (bif Nat.ble 18 pc then (bif Nat.ble 19 pc then (bif Nat.beq pc 19 then some (.getfield 19, 4, 3, 110, none, none, []) else none) else (bif Nat.beq pc 18 then some (.aload_n 0, 0, 0, 0, none, none, []) else none)) else (bif Nat.ble 15 pc then (bif Nat.beq pc 15 then some (.if_icmp .ne 39, 54, 0, 0, none, some [0, 1, 2], []) else none) else (bif Nat.beq pc 14 then some (.iconst 2, 0, 0, 0, none, none, []) else none)))) else (bif Nat.ble 6 pc then (bif Nat.ble 10 pc then (bif Nat.ble 13 pc then (bif Nat.beq pc 13 then some (.iload_n 1, 0, 0, 0, none, none, []) else none) else (bif Nat.beq pc 10 then some (.goto 117, 127, 0, 0, none, some [], []) else none)) else (bif Nat.ble 7 pc then (bif Nat.beq pc 7 then some (.invokevirtual 53, 40, 0, 10048, none, none, []) else none) else (bif Nat.beq pc 6 then some (.iload_n 2, 0, 0, 0, none, none, []) else none))) else (bif Nat.ble 2 pc then (bif Nat.ble 5 pc then (bif Nat.beq pc 5 then some (.aload_n 0, 0, 0, 0, none, none, []) else none) else (bif Nat.beq pc 2 then some (.if_icmp .lt 11, 13, 0, 0, none, some [0, 1, 2], []) else none)) else (bif Nat.ble 1 pc then (bif Nat.beq pc 1 then some (.iconst 5, 0, 0, 0, none, none, []) else none) else (bif Nat.beq pc 0 then some (.iload_n 1, 0, 0, 0, none, none, []) else none))))))
abbrev k_Read_joiner : Nat := 39
noncomputable def tb_39 (pc : Nat) : Option am_I := bif Nat.ble 86 pc then (bif Nat.ble 114 pc then (bif Nat.ble 127 pc then (bif Nat.ble 135 pc then (bif Nat.ble 140 pc then (bif Nat.ble 141 pc then (bif Nat.beq pc 141 then some (.ireturn, 0, 0, 0, none, none, []) else none) else (bif Nat.beq pc 140 then some (.iconst 0, 0, 0, 0, some [], none, []) else none)) else (bif Nat.ble 137 pc then (bif Nat.beq pc 137 then some (.goto 4, 141, 0, 0, none, some [], []) else none) else (bif Nat.beq pc 135 then some (.bipush (-9), 0, 0, 0, none, none, []) else none))) else (bif Nat.ble 130 pc then (bif Nat.ble 132 pc then (bif Nat.beq pc 132 then some (.if_icmp .ne 8, 140, 0, 0, none, some [], []) else none) else (bif Nat.beq pc 130 then some (.bipush 42, 0, 0, 0, none, none, []) else none)) else (bif Nat.beq pc 127 then some (.getfield 19, 4, 3, 110, none, none, []) else none))) else (bif Nat.ble 121 pc then (bif Nat.ble 125 pc then (bif Nat.ble 126 pc then (bif Nat.beq pc 126 then some (.aload_n 0, 0, 0, 0, none, none, []) else none) else (bif Nat.beq pc 125 then some (.ireturn, 0, 0, 0, none, none, []) else none)) else (bif Nat.ble 124 pc then (bif Nat.beq pc 124 then some (.iconst 0, 0, 0, 0, some [], none, []) else none) else (bif Nat.beq pc 121 then some (.goto 4, 125, 0, 0, none, some [], []) else none))) else (bif Nat.ble 116 pc then (bif Nat.ble 119 pc then (bif Nat.beq pc 119 then some (.bipush (-11), 0, 0, 0, none, none, []) else none) else (bif Nat.beq pc 116 then some (.if_icmp .ne 8, 124, 0, 0, none, some [], []) else none)) else (bif Nat.beq pc 114 then some (.bipush 45, 0, 0, 0, none, none, []) else none)))) else (bif Nat.ble 97 pc then (bif Nat.ble 105 pc then (bif Nat.ble 110 pc then (bif Nat.ble 111 pc then (bif Nat.beq pc 111 then some (.getfield 19, 4, 3, 110, none, none, []) else none) else (bif Nat.beq pc 110 then some (.aload_n 0, 0, 0, 0, none, none, []) else none)) else (bif Nat.ble 107 pc then (bif Nat.beq pc 107 then some (.goto 18, 125, 0, 0, none, some [], []) else none) else (bif Nat.beq pc 105 then some (.bipush (-10), 0, 0, 0, none, none, []) else none))) else (bif Nat.ble 100 pc then (bif Nat.ble 102 pc then (bif Nat.beq pc 102 then some (.if_icmp .ne 8, 110, 0, 0, none, some [0], []) else none) else (bif Nat.beq pc 100 then some (.bipush 43, 0, 0, 0, none, none, []) else none)) else (bif Nat.beq pc 97 then some (.getfield 19, 4, 3, 110, none, none, []) else none))) else (bif Nat.ble 94 pc then (bif Nat.ble 95 pc then (bif Nat.ble 96 pc then (bif Nat.beq pc 96 then some (.aload_n 0, 0, 0, 0, none, none, []) else none) else (bif Nat.beq pc 95 then some (.ireturn, 0, 0, 0, none, none, []) else none)) else (bif Nat.beq pc 94 then some (.iconst 0, 0, 0, 0, some [], none, []) else none)) else (bif Nat.ble 89 pc then (bif Nat.ble 91 pc then (bif Nat.beq pc 91 then some (.goto 4, 95, 0, 0, none, some [], []) else none) else (bif Nat.beq pc 89 then some (.bipush (-13), 0, 0, 0, none, none, []) else none)) else (bif Nat.beq pc 86 then some (.if_icmp .ne 8, 94, 0, 0, none, some [], []) else none))))) else (bif Nat.ble 56 pc then (bif Nat.ble 70 pc then (bif Nat.ble 77 pc then (bif Nat.ble 81 pc then (bif Nat.ble 84 pc then (bif Nat.beq pc 84 then some (.bipush 61, 0, 0, 0, none, none, []) else none) else (bif Nat.beq pc 81 then some (.getfield 19, 4, 3, 110, none, none, []) else none)) else (bif Nat.ble 80 pc then (bif Nat.beq pc 80 then some (.aload_n 0, 0, 0, 0, none, none, []) else none) else (bif Nat.beq pc 77 then some (.goto 18, 95, 0, 0, none, some [], []) else none))) else (bif Nat.ble 72 pc then (bif Nat.ble 75 pc then (bif Nat.beq pc 75 then some (.bipush (-12), 0, 0, 0, none, none, []) else none) else (bif Nat.beq pc 72 then some (.if_icmp .ne 8, 80, 0, 0, none, some [0], []) else none)) else (bif Nat.beq pc 70 then some (.bipush 60, 0, 0, 0, none, none, []) else none))) else (bif Nat.ble 64 pc then (bif Nat.ble 66 pc then (bif Nat.ble 67 pc then (bif Nat.beq pc 67 then some (.getfield 19, 4, 3, 110, none, none, []) else none) else (bif Nat.beq pc 66 then some (.aload_n 0, 0, 0, 0, none, none, []) else none)) else (bif Nat.ble 65 pc then (bif Nat.beq pc 65 then some (.ireturn, 0, 0, 0, none, none, []) else none) else (bif Nat.beq pc 64 then some (.iconst 0, 0, 0, 0, some [], none, []) else none))) else (bif Nat.ble 59 pc then (bif Nat.ble 61 pc then (bif Nat.beq pc 61 then some (.goto 4, 65, 0, 0, none, some [], []) else none) else (bif Nat.beq pc 59 then some (.bipush (-14), 0, 0, 0, none, none, []) else none)) else (bif Nat.beq pc 56 then some (.if_icmp .ne 8, 64, 0, 0, none, some [], []) else none)))) else (bif Nat.ble 42 pc then (bif Nat.ble 48 pc then (bif Nat.ble 50 pc then (bif Nat.ble 53 pc then (bif Nat.beq pc 53 then some (.sipush 304, 0, 0, 0, none, none, []) else none) else (bif Nat.beq pc 50 then some (.getfield 19, 4, 3, 110, none, none, []) else none)) else (bif Nat.ble 49 pc then (bif Nat.beq pc 49 then some (.aload_n 0, 0, 0, 0, none, none, []) else none) else (bif Nat.beq pc 48 then some (.ireturn, 0, 0, 0, none, none, []) else none))) else (bif Nat.ble 44 pc then (bif Nat.ble 47 pc then (bif Nat.beq pc 47 then some (.iconst 0, 0, 0, 0, some [], none, []) else none) else (bif Nat.beq pc 44 then some (.goto 4, 48, 0, 0, none, some [], []) else none)) else (bif Nat.beq pc 42 then some (.bipush (-15), 0, 0, 0, none, none, []) else none))) else (bif Nat.ble 33 pc then (bif Nat.ble 36 pc then (bif Nat.ble 39 pc then (bif Nat.beq pc 39 then some (.if_icmp .ne 8, 47, 0, 0, none, some [], []) else none) else (bif Nat.beq pc 36 then some (.sipush 303, 0, 0, 0, none, none, []) else none)) else (bif Nat.beq pc 33 then some (.getfield 19, 4, 3, 110, none, none, []) else none)) else (bif Nat.ble 1 pc then (bif Nat.ble 32 pc then (bif Nat.beq pc 32 then some (.aload_n 0, 0, 0, 0, none, none, []) else none) else (bif Nat.beq pc 1 then some (.tableswitch 125 0 3 #[31, 48, 65, 95], 0, 0, 0, none, none, [(126, [0]), (32, [0]), (49, [0]), (66, [0]), (96, [0])]) else none)) else (bif Nat.beq pc 0 then some (.iload_n 1, 0, 0, 0, none, none, []) else none)))))
abbrev k_Read_one : Nat := 40
noncomputable def tb_40 (pc : Nat) : Option am_I := bif Nat.ble 74 pc then (bif Nat.ble 107 pc then (bif Nat.ble 123 pc then (bif Nat.ble 131 pc then (bif Nat.ble 137 pc then (bif Nat.ble 138 pc then (bif Nat.ble 141 pc then (bif Nat.beq pc 141 then some (.return_, 0, 0, 0, none, none, []) else none) else (bif Nat.beq pc 138 then some (.invokevirtual 50, 35, 0, 10040, some [], none, []) else none)) else (bif Nat.beq pc 137 then some (.aload_n 0, 0, 0, 0, none, none, []) else none)) else (bif Nat.ble 134 pc then (bif Nat.beq pc 134 then some (.goto 7, 141, 0, 0, none, some [], []) else none) else (bif Nat.beq pc 131 then some (.invokevirtual 50, 35, 0, 10040, none, none, []) else none))) else (bif Nat.ble 127 pc then (bif Nat.ble 130 pc then (bif Nat.beq pc 130 then some (.aload_n 0, 0, 0, 0, none, none, []) else none) else (bif Nat.beq pc 127 then some (.goto 14, 141, 0, 0, none, some [], []) else none)) else (bif Nat.ble 124 pc then (bif Nat.beq pc 124 then some (.invokevirtual 39, 41, 0, 194, none, none, []) else none) else (bif Nat.beq pc 123 then some (.aload_n 0, 0, 0, 0, none, none, []) else none)))) else (bif Nat.ble 111 pc then (bif Nat.ble 115 pc then (bif Nat.ble 118 pc then (bif Nat.ble 120 pc then (bif Nat.beq pc 120 then some (.if_icmp .ne 10, 130, 0, 0, none, some [0], []) else none) else (bif Nat.beq pc 118 then some (.bipush 41, 0, 0, 0, none, none, []) else none)) else (bif Nat.beq pc 115 then some (.getfield 19, 4, 3, 110, none, none, []) else none)) else (bif Nat.ble 114 pc then (bif Nat.beq pc 114 then some (.aload_n 0, 0, 0, 0, none, none, []) else none) else (bif Nat.beq pc 111 then some (.invokevirtual 46, 38, 0, 10044, none, none, []) else none))) else (bif Nat.ble 109 pc then (bif Nat.ble 110 pc then (bif Nat.beq pc 110 then some (.iadd, 0, 0, 0, none, none, []) else none) else (bif Nat.beq pc 109 then some (.iconst 1, 0, 0, 0, none, none, []) else none)) else (bif Nat.ble 108 pc then (bif Nat.beq pc 108 then some (.iload_n 1, 0, 0, 0, none, none, []) else none) else (bif Nat.beq pc 107 then some (.iconst 0, 0, 0, 0, none, none, []) else none))))) else (bif Nat.ble 89 pc then (bif Nat.ble 98 pc then (bif Nat.ble 102 pc then (bif Nat.ble 103 pc then (bif Nat.ble 106 pc then (bif Nat.beq pc 106 then some (.aload_n 0, 0, 0, 0, none, none, []) else none) else (bif Nat.beq pc 103 then some (.invokevirtual 39, 41, 0, 194, none, none, []) else none)) else (bif Nat.beq pc 102 then some (.aload_n 0, 0, 0, 0, none, none, []) else none)) else (bif Nat.ble 99 pc then (bif Nat.beq pc 99 then some (.if_icmp .ge 38, 137, 0, 0, none, some [0], []) else none) else (bif Nat.beq pc 98 then some (.iconst 5, 0, 0, 0, none, none, []) else none))) else (bif Nat.ble 94 pc then (bif Nat.ble 97 pc then (bif Nat.beq pc 97 then some (.iload_n 1, 0, 0, 0, none, none, []) else none) else (bif Nat.beq pc 94 then some (.if_icmp .ne 43, 137, 0, 0, none, some [0], []) else none)) else (bif Nat.ble 92 pc then (bif Nat.beq pc 92 then some (.bipush 40, 0, 0, 0, none, none, []) else none) else (bif Nat.beq pc 89 then some (.getfield 19, 4, 3, 110, none, none, []) else none)))) else (bif Nat.ble 80 pc then (bif Nat.ble 85 pc then (bif Nat.ble 88 pc then (bif Nat.beq pc 88 then some (.aload_n 0, 0, 0, 0, none, none, []) else none) else (bif Nat.beq pc 85 then some (.goto 56, 141, 0, 0, none, some [], []) else none)) else (bif Nat.ble 82 pc then (bif Nat.beq pc 82 then some (.invokevirtual 56, 37, 0, 10052, none, none, []) else none) else (bif Nat.beq pc 80 then some (.bipush (-7), 0, 0, 0, none, none, []) else none))) else (bif Nat.ble 76 pc then (bif Nat.ble 79 pc then (bif Nat.beq pc 79 then some (.aload_n 0, 0, 0, 0, none, none, []) else none) else (bif Nat.beq pc 76 then some (.invokevirtual 53, 40, 0, 10048, none, none, []) else none)) else (bif Nat.ble 75 pc then (bif Nat.beq pc 75 then some (.iadd, 0, 0, 0, none, none, []) else none) else (bif Nat.beq pc 74 then some (.iconst 1, 0, 0, 0, none, none, []) else none)))))) else (bif Nat.ble 39 pc then (bif Nat.ble 58 pc then (bif Nat.ble 65 pc then (bif Nat.ble 69 pc then (bif Nat.ble 72 pc then (bif Nat.ble 73 pc then (bif Nat.beq pc 73 then some (.iload_n 1, 0, 0, 0, none, none, []) else none) else (bif Nat.beq pc 72 then some (.aload_n 0, 0, 0, 0, none, none, []) else none)) else (bif Nat.beq pc 69 then some (.invokevirtual 39, 41, 0, 194, none, none, []) else none)) else (bif Nat.ble 68 pc then (bif Nat.beq pc 68 then some (.aload_n 0, 0, 0, 0, none, none, []) else none) else (bif Nat.beq pc 65 then some (.if_icmp .ge 23, 88, 0, 0, none, some [0, 1], []) else none))) else (bif Nat.ble 63 pc then (bif Nat.ble 64 pc then (bif Nat.beq pc 64 then some (.iconst 5, 0, 0, 0, none, none, []) else none) else (bif Nat.beq pc 63 then some (.iload_n 1, 0, 0, 0, none, none, []) else none)) else (bif Nat.ble 60 pc then (bif Nat.beq pc 60 then some (.if_icmp .ne 28, 88, 0, 0, none, some [0, 1], []) else none) else (bif Nat.beq pc 58 then some (.bipush 45, 0, 0, 0, none, none, []) else none)))) else (bif Nat.ble 47 pc then (bif Nat.ble 51 pc then (bif Nat.ble 54 pc then (bif Nat.ble 55 pc then (bif Nat.beq pc 55 then some (.getfield 19, 4, 3, 110, none, none, []) else none) else (bif Nat.beq pc 54 then some (.aload_n 0, 0, 0, 0, none, none, []) else none)) else (bif Nat.beq pc 51 then some (.goto 90, 141, 0, 0, none, some [], []) else none)) else (bif Nat.ble 48 pc then (bif Nat.beq pc 48 then some (.invokevirtual 39, 41, 0, 194, none, none, []) else none) else (bif Nat.beq pc 47 then some (.aload_n 0, 0, 0, 0, none, none, []) else none))) else (bif Nat.ble 43 pc then (bif Nat.ble 44 pc then (bif Nat.beq pc 44 then some (.invokevirtual 56, 37, 0, 10052, none, none, []) else none) else (bif Nat.beq pc 43 then some (.isub, 0, 0, 0, some [0], none, []) else none)) else (bif Nat.ble 40 pc then (bif Nat.beq pc 40 then some (.getfield 22, 4, 4, 111, none, none, []) else none) else (bif Nat.beq pc 39 then some (.aload_n 0, 0, 0, 0, none, none, []) else none))))) else (bif Nat.ble 20 pc then (bif Nat.ble 28 pc then (bif Nat.ble 32 pc then (bif Nat.ble 35 pc then (bif Nat.ble 38 pc then (bif Nat.beq pc 38 then some (.iconst (-1), 0, 0, 0, none, none, []) else none) else (bif Nat.beq pc 35 then some (.goto 9, 44, 0, 0, none, some [0], []) else none)) else (bif Nat.beq pc 32 then some (.getfield 22, 4, 4, 111, none, none, []) else none)) else (bif Nat.ble 31 pc then (bif Nat.beq pc 31 then some (.aload_n 0, 0, 0, 0, none, none, []) else none) else (bif Nat.beq pc 28 then some (.if_icmp .ne 10, 38, 0, 0, none, some [0], []) else none))) else (bif Nat.ble 22 pc then (bif Nat.ble 25 pc then (bif Nat.beq pc 25 then some (.sipush 307, 0, 0, 0, none, none, []) else none) else (bif Nat.beq pc 22 then some (.getfield 19, 4, 3, 110, none, none, []) else none)) else (bif Nat.ble 21 pc then (bif Nat.beq pc 21 then some (.aload_n 0, 0, 0, 0, none, none, []) else none) else (bif Nat.beq pc 20 then some (.aload_n 0, 0, 0, 0, none, none, []) else none)))) else (bif Nat.ble 10 pc then (bif Nat.ble 14 pc then (bif Nat.ble 17 pc then (bif Nat.beq pc 17 then some (.if_icmp .ne 37, 54, 0, 0, some [0], some [0, 1], []) else none) else (bif Nat.beq pc 14 then some (.sipush 306, 0, 0, 0, none, none, []) else none)) else (bif Nat.ble 11 pc then (bif Nat.beq pc 11 then some (.getfield 19, 4, 3, 110, none, none, []) else none) else (bif Nat.beq pc 10 then some (.aload_n 0, 0, 0, 0, none, none, []) else none))) else (bif Nat.ble 4 pc then (bif Nat.ble 7 pc then (bif Nat.beq pc 7 then some (.if_icmp .eq 13, 20, 0, 0, none, some [0], []) else none) else (bif Nat.beq pc 4 then some (.sipush 307, 0, 0, 0, none, none, []) else none)) else (bif Nat.ble 1 pc then (bif Nat.beq pc 1 then some (.getfield 19, 4, 3, 110, none, none, []) else none) else (bif Nat.beq pc 0 then some (.aload_n 0, 0, 0, 0, none, none, []) else none))))))
abbrev k_Read_advance : Nat := 41
noncomputable def tb_41 (pc : Nat) : Option am_I := bif Nat.ble 102 pc then (bif Nat.ble 157 pc then (bif Nat.ble 178 pc then (bif Nat.ble 190 pc then (bif Nat.ble 195 pc then (bif Nat.ble 201 pc then (bif Nat.ble 204 pc then (bif Nat.beq pc 204 then some (.return_, 0, 0, 0, none, none, []) else none) else (bif Nat.beq pc 201 then some (.putfield 19, 4, 3, 110, some [], none, []) else none)) else (bif Nat.ble 198 pc then (bif Nat.beq pc 198 then some (.sipush 309, 0, 0, 0, some [], none, []) else none) else (bif Nat.beq pc 195 then some (.goto 6, 201, 0, 0, none, some [], []) else none))) else (bif Nat.ble 191 pc then (bif Nat.ble 194 pc then (bif Nat.beq pc 194 then some (.iaload, 0, 0, 0, none, none, []) else none) else (bif Nat.beq pc 191 then some (.getfield 13, 4, 1, 107, none, none, []) else none)) else (bif Nat.beq pc 190 then some (.aload_n 0, 0, 0, 0, none, none, []) else none))) else (bif Nat.ble 183 pc then (bif Nat.ble 186 pc then (bif Nat.ble 187 pc then (bif Nat.beq pc 187 then some (.getfield 36, 4, 8, 115, none, none, []) else none) else (bif Nat.beq pc 186 then some (.aload_n 0, 0, 0, 0, none, none, []) else none)) else (bif Nat.beq pc 183 then some (.ifCond .lt 15, 198, 0, 0, none, some [], []) else none)) else (bif Nat.ble 179 pc then (bif Nat.ble 180 pc then (bif Nat.beq pc 180 then some (.invokevirtual 76, 89, 0, 217, none, none, []) else none) else (bif Nat.beq pc 179 then some (.i2c, 0, 0, 0, none, none, []) else none)) else (bif Nat.beq pc 178 then some (.iaload, 0, 0, 0, none, none, []) else none)))) else (bif Nat.ble 167 pc then (bif Nat.ble 171 pc then (bif Nat.ble 174 pc then (bif Nat.ble 175 pc then (bif Nat.beq pc 175 then some (.getfield 13, 4, 1, 107, none, none, []) else none) else (bif Nat.beq pc 174 then some (.aload_n 0, 0, 0, 0, none, none, []) else none)) else (bif Nat.beq pc 171 then some (.getfield 36, 4, 8, 115, none, none, []) else none)) else (bif Nat.ble 168 pc then (bif Nat.ble 170 pc then (bif Nat.beq pc 170 then some (.aload_n 0, 0, 0, 0, none, none, []) else none) else (bif Nat.beq pc 168 then some (.ldc 74, 1, 7, 216, none, none, []) else none)) else (bif Nat.beq pc 167 then some (.aload_n 0, 0, 0, 0, none, none, []) else none))) else (bif Nat.ble 162 pc then (bif Nat.ble 163 pc then (bif Nat.ble 164 pc then (bif Nat.beq pc 164 then some (.putfield 16, 4, 2, 109, none, none, []) else none) else (bif Nat.beq pc 163 then some (.iadd, 0, 0, 0, none, none, []) else none)) else (bif Nat.beq pc 162 then some (.iconst 1, 0, 0, 0, none, none, []) else none)) else (bif Nat.ble 158 pc then (bif Nat.ble 159 pc then (bif Nat.beq pc 159 then some (.getfield 13, 4, 1, 107, none, none, []) else none) else (bif Nat.beq pc 158 then some (.aload_n 0, 0, 0, 0, none, none, []) else none)) else (bif Nat.beq pc 157 then some (.aload_n 0, 0, 0, 0, none, none, []) else none))))) else (bif Nat.ble 128 pc then (bif Nat.ble 140 pc then (bif Nat.ble 147 pc then (bif Nat.ble 151 pc then (bif Nat.ble 154 pc then (bif Nat.beq pc 154 then some (.goto 50, 204, 0, 0, none, some [], []) else none) else (bif Nat.beq pc 151 then some (.putfield 19, 4, 3, 110, none, none, []) else none)) else (bif Nat.ble 148 pc then (bif Nat.beq pc 148 then some (.invokevirtual 71, 43, 0, 212, none, none, []) else none) else (bif Nat.beq pc 147 then some (.aload_n 0, 0, 0, 0, none, none, []) else none))) else (bif Nat.ble 143 pc then (bif Nat.ble 146 pc then (bif Nat.beq pc 146 then some (.aload_n 0, 0, 0, 0, none, none, []) else none) else (bif Nat.beq pc 143 then some (.ifCond .eq 14, 157, 0, 0, none, some [0], []) else none)) else (bif Nat.beq pc 140 then some (.invokestatic 63, 45, 0, 198, none, none, []) else none))) else (bif Nat.ble 135 pc then (bif Nat.ble 136 pc then (bif Nat.ble 138 pc then (bif Nat.beq pc 138 then some (.bipush 57, 0, 0, 0, none, none, []) else none) else (bif Nat.beq pc 136 then some (.bipush 48, 0, 0, 0, none, none, []) else none)) else (bif Nat.beq pc 135 then some (.iaload, 0, 0, 0, none, none, []) else none)) else (bif Nat.ble 131 pc then (bif Nat.ble 132 pc then (bif Nat.beq pc 132 then some (.getfield 13, 4, 1, 107, none, none, []) else none) else (bif Nat.beq pc 131 then some (.aload_n 0, 0, 0, 0, none, none, []) else none)) else (bif Nat.beq pc 128 then some (.getfield 36, 4, 8, 115, none, none, []) else none)))) else (bif Nat.ble 116 pc then (bif Nat.ble 121 pc then (bif Nat.ble 124 pc then (bif Nat.ble 127 pc then (bif Nat.beq pc 127 then some (.aload_n 0, 0, 0, 0, none, none, []) else none) else (bif Nat.beq pc 124 then some (.goto 80, 204, 0, 0, none, some [], []) else none)) else (bif Nat.beq pc 121 then some (.putfield 19, 4, 3, 110, none, none, []) else none)) else (bif Nat.ble 117 pc then (bif Nat.ble 118 pc then (bif Nat.beq pc 118 then some (.invokevirtual 67, 42, 0, 201, none, none, []) else none) else (bif Nat.beq pc 117 then some (.aload_n 0, 0, 0, 0, none, none, []) else none)) else (bif Nat.beq pc 116 then some (.aload_n 0, 0, 0, 0, none, none, []) else none))) else (bif Nat.ble 108 pc then (bif Nat.ble 110 pc then (bif Nat.ble 113 pc then (bif Nat.beq pc 113 then some (.ifCond .eq 14, 127, 0, 0, none, some [0], []) else none) else (bif Nat.beq pc 110 then some (.invokestatic 63, 45, 0, 198, none, none, []) else none)) else (bif Nat.beq pc 108 then some (.bipush 122, 0, 0, 0, none, none, []) else none)) else (bif Nat.ble 105 pc then (bif Nat.ble 106 pc then (bif Nat.beq pc 106 then some (.bipush 97, 0, 0, 0, none, none, []) else none) else (bif Nat.beq pc 105 then some (.iaload, 0, 0, 0, none, none, []) else none)) else (bif Nat.beq pc 102 then some (.getfield 13, 4, 1, 107, none, none, []) else none)))))) else (bif Nat.ble 50 pc then (bif Nat.ble 73 pc then (bif Nat.ble 87 pc then (bif Nat.ble 94 pc then (bif Nat.ble 98 pc then (bif Nat.ble 101 pc then (bif Nat.beq pc 101 then some (.aload_n 0, 0, 0, 0, none, none, []) else none) else (bif Nat.beq pc 98 then some (.getfield 36, 4, 8, 115, none, none, []) else none)) else (bif Nat.ble 97 pc then (bif Nat.beq pc 97 then some (.aload_n 0, 0, 0, 0, none, none, []) else none) else (bif Nat.beq pc 94 then some (.goto 110, 204, 0, 0, none, some [], []) else none))) else (bif Nat.ble 88 pc then (bif Nat.ble 91 pc then (bif Nat.beq pc 91 then some (.putfield 19, 4, 3, 110, none, none, []) else none) else (bif Nat.beq pc 88 then some (.sipush 308, 0, 0, 0, none, none, []) else none)) else (bif Nat.beq pc 87 then some (.aload_n 0, 0, 0, 0, none, none, []) else none))) else (bif Nat.ble 80 pc then (bif Nat.ble 81 pc then (bif Nat.ble 84 pc then (bif Nat.beq pc 84 then some (.if_icmp .lt 13, 97, 0, 0, none, some [0], []) else none) else (bif Nat.beq pc 81 then some (.getfield 7, 4, 0, 105, none, none, []) else none)) else (bif Nat.beq pc 80 then some (.aload_n 0, 0, 0, 0, none, none, []) else none)) else (bif Nat.ble 76 pc then (bif Nat.ble 77 pc then (bif Nat.beq pc 77 then some (.getfield 13, 4, 1, 107, none, none, []) else none) else (bif Nat.beq pc 76 then some (.aload_n 0, 0, 0, 0, none, none, []) else none)) else (bif Nat.beq pc 73 then some (.putfield 16, 4, 2, 109, none, none, []) else none)))) else (bif Nat.ble 61 pc then (bif Nat.ble 68 pc then (bif Nat.ble 69 pc then (bif Nat.ble 70 pc then (bif Nat.beq pc 70 then some (.getfield 13, 4, 1, 107, none, none, []) else none) else (bif Nat.beq pc 69 then some (.aload_n 0, 0, 0, 0, none, none, []) else none)) else (bif Nat.beq pc 68 then some (.aload_n 0, 0, 0, 0, none, none, []) else none)) else (bif Nat.ble 62 pc then (bif Nat.ble 65 pc then (bif Nat.beq pc 65 then some (.goto (-49), 16, 0, 0, none, some [0], []) else none) else (bif Nat.beq pc 62 then some (.putfield 13, 4, 1, 107, none, none, []) else none)) else (bif Nat.beq pc 61 then some (.iadd, 0, 0, 0, none, none, []) else none))) else (bif Nat.ble 56 pc then (bif Nat.ble 57 pc then (bif Nat.ble 60 pc then (bif Nat.beq pc 60 then some (.iconst 1, 0, 0, 0, none, none, []) else none) else (bif Nat.beq pc 57 then some (.getfield 13, 4, 1, 107, none, none, []) else none)) else (bif Nat.beq pc 56 then some (.dup, 0, 0, 0, none, none, []) else none)) else (bif Nat.ble 52 pc then (bif Nat.ble 55 pc then (bif Nat.beq pc 55 then some (.aload_n 0, 0, 0, 0, none, none, []) else none) else (bif Nat.beq pc 52 then some (.if_icmp .ne 16, 68, 0, 0, some [0], some [0], []) else none)) else (bif Nat.beq pc 50 then some (.bipush 10, 0, 0, 0, none, none, []) else none))))) else (bif Nat.ble 24 pc then (bif Nat.ble 36 pc then (bif Nat.ble 42 pc then (bif Nat.ble 46 pc then (bif Nat.ble 49 pc then (bif Nat.beq pc 49 then some (.iaload, 0, 0, 0, none, none, []) else none) else (bif Nat.beq pc 46 then some (.getfield 13, 4, 1, 107, none, none, []) else none)) else (bif Nat.ble 45 pc then (bif Nat.beq pc 45 then some (.aload_n 0, 0, 0, 0, none, none, []) else none) else (bif Nat.beq pc 42 then some (.getfield 36, 4, 8, 115, none, none, []) else none))) else (bif Nat.ble 38 pc then (bif Nat.ble 41 pc then (bif Nat.beq pc 41 then some (.aload_n 0, 0, 0, 0, none, none, []) else none) else (bif Nat.beq pc 38 then some (.if_icmp .eq 17, 55, 0, 0, none, some [0], []) else none)) else (bif Nat.beq pc 36 then some (.bipush 32, 0, 0, 0, none, none, []) else none))) else (bif Nat.ble 31 pc then (bif Nat.ble 32 pc then (bif Nat.ble 35 pc then (bif Nat.beq pc 35 then some (.iaload, 0, 0, 0, none, none, []) else none) else (bif Nat.beq pc 32 then some (.getfield 13, 4, 1, 107, none, none, []) else none)) else (bif Nat.beq pc 31 then some (.aload_n 0, 0, 0, 0, none, none, []) else none)) else (bif Nat.ble 27 pc then (bif Nat.ble 28 pc then (bif Nat.beq pc 28 then some (.getfield 36, 4, 8, 115, none, none, []) else none) else (bif Nat.beq pc 27 then some (.aload_n 0, 0, 0, 0, none, none, []) else none)) else (bif Nat.beq pc 24 then some (.if_icmp .ge 44, 68, 0, 0, none, some [0], []) else none)))) else (bif Nat.ble 10 pc then (bif Nat.ble 17 pc then (bif Nat.ble 20 pc then (bif Nat.ble 21 pc then (bif Nat.beq pc 21 then some (.getfield 7, 4, 0, 105, none, none, []) else none) else (bif Nat.beq pc 20 then some (.aload_n 0, 0, 0, 0, none, none, []) else none)) else (bif Nat.beq pc 17 then some (.getfield 13, 4, 1, 107, none, none, []) else none)) else (bif Nat.ble 13 pc then (bif Nat.ble 16 pc then (bif Nat.beq pc 16 then some (.aload_n 0, 0, 0, 0, none, none, []) else none) else (bif Nat.beq pc 13 then some (.putfield 13, 4, 1, 107, some [0], none, []) else none)) else (bif Nat.beq pc 10 then some (.getfield 16, 4, 2, 109, none, none, []) else none))) else (bif Nat.ble 7 pc then (bif Nat.ble 8 pc then (bif Nat.ble 9 pc then (bif Nat.beq pc 9 then some (.aload_n 0, 0, 0, 0, none, none, []) else none) else (bif Nat.beq pc 8 then some (.aload_n 0, 0, 0, 0, none, none, []) else none)) else (bif Nat.beq pc 7 then some (.return_, 0, 0, 0, none, none, []) else none)) else (bif Nat.ble 1 pc then (bif Nat.ble 4 pc then (bif Nat.beq pc 4 then some (.ifCond .eq 4, 8, 0, 0, none, some [0], []) else none) else (bif Nat.beq pc 1 then some (.getfield 25, 4, 5, 112, none, none, []) else none)) else (bif Nat.beq pc 0 then some (.aload_n 0, 0, 0, 0, none, none, []) else none))))))
abbrev k_Read_scanWord : Nat := 42
noncomputable def tb_42 (pc : Nat) : Option am_I := bif Nat.ble 43 pc then (bif Nat.ble 60 pc then (bif Nat.ble 70 pc then (bif Nat.ble 75 pc then (bif Nat.ble 78 pc then (bif Nat.ble 81 pc then (bif Nat.beq pc 81 then some (.ireturn, 0, 0, 0, none, none, []) else none) else (bif Nat.beq pc 78 then some (.sipush 306, 0, 0, 0, some [], none, []) else none)) else (bif Nat.beq pc 75 then some (.goto 6, 81, 0, 0, none, some [], []) else none)) else (bif Nat.ble 73 pc then (bif Nat.ble 74 pc then (bif Nat.beq pc 74 then some (.iadd, 0, 0, 0, none, none, []) else none) else (bif Nat.beq pc 73 then some (.iload_n 1, 0, 0, 0, none, none, []) else none)) else (bif Nat.beq pc 70 then some (.sipush 300, 0, 0, 0, none, none, []) else none))) else (bif Nat.ble 64 pc then (bif Nat.ble 65 pc then (bif Nat.ble 67 pc then (bif Nat.beq pc 67 then some (.if_icmp .ge 11, 78, 0, 0, none, some [], []) else none) else (bif Nat.beq pc 65 then some (.bipush 6, 0, 0, 0, none, none, []) else none)) else (bif Nat.beq pc 64 then some (.iload_n 1, 0, 0, 0, none, none, []) else none)) else (bif Nat.ble 61 pc then (bif Nat.beq pc 61 then some (.putfield 22, 4, 4, 111, none, none, []) else none) else (bif Nat.beq pc 60 then some (.isub, 0, 0, 0, none, none, []) else none)))) else (bif Nat.ble 52 pc then (bif Nat.ble 56 pc then (bif Nat.ble 57 pc then (bif Nat.ble 58 pc then (bif Nat.beq pc 58 then some (.bipush 6, 0, 0, 0, none, none, []) else none) else (bif Nat.beq pc 57 then some (.iload_n 1, 0, 0, 0, none, none, []) else none)) else (bif Nat.beq pc 56 then some (.aload_n 0, 0, 0, 0, none, none, []) else none)) else (bif Nat.ble 55 pc then (bif Nat.beq pc 55 then some (.ireturn, 0, 0, 0, none, none, []) else none) else (bif Nat.beq pc 52 then some (.sipush 309, 0, 0, 0, none, none, []) else none))) else (bif Nat.ble 47 pc then (bif Nat.ble 48 pc then (bif Nat.ble 49 pc then (bif Nat.beq pc 49 then some (.ifCond .ge 7, 56, 0, 0, none, some [0, 1], []) else none) else (bif Nat.beq pc 48 then some (.iload_n 1, 0, 0, 0, none, none, []) else none)) else (bif Nat.beq pc 47 then some (.istore_n 1, 0, 0, 0, none, none, []) else none)) else (bif Nat.ble 44 pc then (bif Nat.beq pc 44 then some (.invokevirtual 81, 44, 0, 205, none, none, []) else none) else (bif Nat.beq pc 43 then some (.aload_n 0, 0, 0, 0, none, none, []) else none))))) else (bif Nat.ble 20 pc then (bif Nat.ble 31 pc then (bif Nat.ble 36 pc then (bif Nat.ble 37 pc then (bif Nat.ble 40 pc then (bif Nat.beq pc 40 then some (.goto (-40), 0, 0, 0, none, some [0], []) else none) else (bif Nat.beq pc 37 then some (.putfield 16, 4, 2, 109, none, none, []) else none)) else (bif Nat.beq pc 36 then some (.iadd, 0, 0, 0, none, none, []) else none)) else (bif Nat.ble 32 pc then (bif Nat.ble 35 pc then (bif Nat.beq pc 35 then some (.iconst 1, 0, 0, 0, none, none, []) else none) else (bif Nat.beq pc 32 then some (.getfield 16, 4, 2, 109, none, none, []) else none)) else (bif Nat.beq pc 31 then some (.dup, 0, 0, 0, none, none, []) else none))) else (bif Nat.ble 24 pc then (bif Nat.ble 27 pc then (bif Nat.ble 30 pc then (bif Nat.beq pc 30 then some (.aload_n 0, 0, 0, 0, none, none, []) else none) else (bif Nat.beq pc 27 then some (.ifCond .eq 16, 43, 0, 0, none, some [0], []) else none)) else (bif Nat.beq pc 24 then some (.invokestatic 63, 45, 0, 198, none, none, []) else none)) else (bif Nat.ble 22 pc then (bif Nat.beq pc 22 then some (.bipush 122, 0, 0, 0, none, none, []) else none) else (bif Nat.beq pc 20 then some (.bipush 97, 0, 0, 0, none, none, []) else none)))) else (bif Nat.ble 11 pc then (bif Nat.ble 15 pc then (bif Nat.ble 16 pc then (bif Nat.ble 19 pc then (bif Nat.beq pc 19 then some (.iaload, 0, 0, 0, none, none, []) else none) else (bif Nat.beq pc 16 then some (.getfield 16, 4, 2, 109, none, none, []) else none)) else (bif Nat.beq pc 15 then some (.aload_n 0, 0, 0, 0, none, none, []) else none)) else (bif Nat.ble 12 pc then (bif Nat.beq pc 12 then some (.getfield 36, 4, 8, 115, none, none, []) else none) else (bif Nat.beq pc 11 then some (.aload_n 0, 0, 0, 0, none, none, []) else none))) else (bif Nat.ble 4 pc then (bif Nat.ble 5 pc then (bif Nat.ble 8 pc then (bif Nat.beq pc 8 then some (.if_icmp .ge 35, 43, 0, 0, none, some [0], []) else none) else (bif Nat.beq pc 5 then some (.getfield 7, 4, 0, 105, none, none, []) else none)) else (bif Nat.beq pc 4 then some (.aload_n 0, 0, 0, 0, none, none, []) else none)) else (bif Nat.ble 1 pc then (bif Nat.beq pc 1 then some (.getfield 16, 4, 2, 109, none, none, []) else none) else (bif Nat.beq pc 0 then some (.aload_n 0, 0, 0, 0, none, none, []) else none)))))
abbrev k_Read_scanNumber : Nat := 43
noncomputable def tb_43 (pc : Nat) : Option am_I := bif Nat.ble 47 pc then (bif Nat.ble 66 pc then (bif Nat.ble 80 pc then (bif Nat.ble 85 pc then (bif Nat.ble 91 pc then (bif Nat.ble 94 pc then (bif Nat.beq pc 94 then some (.ireturn, 0, 0, 0, none, none, []) else none) else (bif Nat.beq pc 91 then some (.sipush 307, 0, 0, 0, some [], none, []) else none)) else (bif Nat.ble 88 pc then (bif Nat.beq pc 88 then some (.goto 6, 94, 0, 0, none, some [], []) else none) else (bif Nat.beq pc 85 then some (.sipush 309, 0, 0, 0, none, none, []) else none))) else (bif Nat.ble 81 pc then (bif Nat.ble 82 pc then (bif Nat.beq pc 82 then some (.if_icmp .le 9, 91, 0, 0, none, some [], []) else none) else (bif Nat.beq pc 81 then some (.iconst 4, 0, 0, 0, none, none, []) else none)) else (bif Nat.beq pc 80 then some (.isub, 0, 0, 0, none, none, []) else none))) else (bif Nat.ble 73 pc then (bif Nat.ble 76 pc then (bif Nat.ble 77 pc then (bif Nat.beq pc 77 then some (.getfield 13, 4, 1, 107, none, none, []) else none) else (bif Nat.beq pc 76 then some (.aload_n 0, 0, 0, 0, none, none, []) else none)) else (bif Nat.beq pc 73 then some (.getfield 16, 4, 2, 109, none, none, []) else none)) else (bif Nat.ble 69 pc then (bif Nat.ble 72 pc then (bif Nat.beq pc 72 then some (.aload_n 0, 0, 0, 0, none, none, []) else none) else (bif Nat.beq pc 69 then some (.goto (-64), 5, 0, 0, none, some [0], []) else none)) else (bif Nat.beq pc 66 then some (.putfield 16, 4, 2, 109, none, none, []) else none)))) else (bif Nat.ble 56 pc then (bif Nat.ble 61 pc then (bif Nat.ble 64 pc then (bif Nat.ble 65 pc then (bif Nat.beq pc 65 then some (.iadd, 0, 0, 0, none, none, []) else none) else (bif Nat.beq pc 64 then some (.iconst 1, 0, 0, 0, none, none, []) else none)) else (bif Nat.beq pc 61 then some (.getfield 16, 4, 2, 109, none, none, []) else none)) else (bif Nat.ble 59 pc then (bif Nat.ble 60 pc then (bif Nat.beq pc 60 then some (.dup, 0, 0, 0, none, none, []) else none) else (bif Nat.beq pc 59 then some (.aload_n 0, 0, 0, 0, none, none, []) else none)) else (bif Nat.beq pc 56 then some (.putfield 22, 4, 4, 111, none, none, []) else none))) else (bif Nat.ble 52 pc then (bif Nat.ble 54 pc then (bif Nat.ble 55 pc then (bif Nat.beq pc 55 then some (.iadd, 0, 0, 0, none, none, []) else none) else (bif Nat.beq pc 54 then some (.isub, 0, 0, 0, none, none, []) else none)) else (bif Nat.beq pc 52 then some (.bipush 48, 0, 0, 0, none, none, []) else none)) else (bif Nat.ble 48 pc then (bif Nat.ble 51 pc then (bif Nat.beq pc 51 then some (.iaload, 0, 0, 0, none, none, []) else none) else (bif Nat.beq pc 48 then some (.getfield 16, 4, 2, 109, none, none, []) else none)) else (bif Nat.beq pc 47 then some (.aload_n 0, 0, 0, 0, none, none, []) else none))))) else (bif Nat.ble 24 pc then (bif Nat.ble 36 pc then (bif Nat.ble 42 pc then (bif Nat.ble 43 pc then (bif Nat.ble 44 pc then (bif Nat.beq pc 44 then some (.getfield 36, 4, 8, 115, none, none, []) else none) else (bif Nat.beq pc 43 then some (.aload_n 0, 0, 0, 0, none, none, []) else none)) else (bif Nat.beq pc 42 then some (.imul, 0, 0, 0, none, none, []) else none)) else (bif Nat.ble 37 pc then (bif Nat.ble 40 pc then (bif Nat.beq pc 40 then some (.bipush 10, 0, 0, 0, none, none, []) else none) else (bif Nat.beq pc 37 then some (.getfield 22, 4, 4, 111, none, none, []) else none)) else (bif Nat.beq pc 36 then some (.aload_n 0, 0, 0, 0, none, none, []) else none))) else (bif Nat.ble 29 pc then (bif Nat.ble 32 pc then (bif Nat.ble 35 pc then (bif Nat.beq pc 35 then some (.aload_n 0, 0, 0, 0, none, none, []) else none) else (bif Nat.beq pc 32 then some (.ifCond .eq 40, 72, 0, 0, none, some [0], []) else none)) else (bif Nat.beq pc 29 then some (.invokestatic 63, 45, 0, 198, none, none, []) else none)) else (bif Nat.ble 25 pc then (bif Nat.ble 27 pc then (bif Nat.beq pc 27 then some (.bipush 57, 0, 0, 0, none, none, []) else none) else (bif Nat.beq pc 25 then some (.bipush 48, 0, 0, 0, none, none, []) else none)) else (bif Nat.beq pc 24 then some (.iaload, 0, 0, 0, none, none, []) else none)))) else (bif Nat.ble 10 pc then (bif Nat.ble 17 pc then (bif Nat.ble 20 pc then (bif Nat.ble 21 pc then (bif Nat.beq pc 21 then some (.getfield 16, 4, 2, 109, none, none, []) else none) else (bif Nat.beq pc 20 then some (.aload_n 0, 0, 0, 0, none, none, []) else none)) else (bif Nat.beq pc 17 then some (.getfield 36, 4, 8, 115, none, none, []) else none)) else (bif Nat.ble 13 pc then (bif Nat.ble 16 pc then (bif Nat.beq pc 16 then some (.aload_n 0, 0, 0, 0, none, none, []) else none) else (bif Nat.beq pc 13 then some (.if_icmp .ge 59, 72, 0, 0, none, some [0], []) else none)) else (bif Nat.beq pc 10 then some (.getfield 7, 4, 0, 105, none, none, []) else none))) else (bif Nat.ble 5 pc then (bif Nat.ble 6 pc then (bif Nat.ble 9 pc then (bif Nat.beq pc 9 then some (.aload_n 0, 0, 0, 0, none, none, []) else none) else (bif Nat.beq pc 6 then some (.getfield 16, 4, 2, 109, none, none, []) else none)) else (bif Nat.beq pc 5 then some (.aload_n 0, 0, 0, 0, none, none, []) else none)) else (bif Nat.ble 1 pc then (bif Nat.ble 2 pc then (bif Nat.beq pc 2 then some (.putfield 22, 4, 4, 111, some [0], none, []) else none) else (bif Nat.beq pc 1 then some (.iconst 0, 0, 0, 0, none, none, []) else none)) else (bif Nat.beq pc 0 then some (.aload_n 0, 0, 0, 0, none, none, []) else none)))))
abbrev k_Read_wordNumber : Nat := 44
noncomputable def tb_44 (pc : Nat) : Option am_I := bif Nat.ble 54 pc then (bif Nat.ble 79 pc then (bif Nat.ble 94 pc then (bif Nat.ble 97 pc then (bif Nat.ble 103 pc then (bif Nat.ble 104 pc then (bif Nat.beq pc 104 then some (.ireturn, 0, 0, 0, none, none, []) else none) else (bif Nat.beq pc 103 then some (.iconst (-1), 0, 0, 0, none, none, []) else none)) else (bif Nat.ble 100 pc then (bif Nat.beq pc 100 then some (.goto (-88), 12, 0, 0, none, some [0, 1, 2, 3, 4], []) else none) else (bif Nat.beq pc 97 then some (.iinc 4 1, 0, 0, 0, none, none, []) else none))) else (bif Nat.ble 95 pc then (bif Nat.ble 96 pc then (bif Nat.beq pc 96 then some (.istore_n 3, 0, 0, 0, some [0, 1, 2, 3, 4], none, []) else none) else (bif Nat.beq pc 95 then some (.iconst 1, 0, 0, 0, none, none, []) else none)) else (bif Nat.beq pc 94 then some (.istore_n 2, 0, 0, 0, none, none, []) else none))) else (bif Nat.ble 86 pc then (bif Nat.ble 90 pc then (bif Nat.ble 91 pc then (bif Nat.beq pc 91 then some (.getfield 13, 4, 1, 107, none, none, []) else none) else (bif Nat.beq pc 90 then some (.aload_n 0, 0, 0, 0, none, none, []) else none)) else (bif Nat.ble 87 pc then (bif Nat.beq pc 87 then some (.iinc 1 1, 0, 0, 0, none, none, []) else none) else (bif Nat.beq pc 86 then some (.ireturn, 0, 0, 0, none, none, []) else none))) else (bif Nat.ble 82 pc then (bif Nat.ble 85 pc then (bif Nat.beq pc 85 then some (.iload_n 1, 0, 0, 0, none, none, []) else none) else (bif Nat.beq pc 82 then some (.if_icmp .ne 5, 87, 0, 0, none, some [0, 1, 4], []) else none)) else (bif Nat.beq pc 79 then some (.getfield 16, 4, 2, 109, none, none, []) else none)))) else (bif Nat.ble 66 pc then (bif Nat.ble 73 pc then (bif Nat.ble 77 pc then (bif Nat.ble 78 pc then (bif Nat.beq pc 78 then some (.aload_n 0, 0, 0, 0, none, none, []) else none) else (bif Nat.beq pc 77 then some (.iload_n 2, 0, 0, 0, none, none, []) else none)) else (bif Nat.ble 74 pc then (bif Nat.beq pc 74 then some (.ifCond .eq 13, 87, 0, 0, none, some [0, 1, 4], []) else none) else (bif Nat.beq pc 73 then some (.iload_n 3, 0, 0, 0, none, none, []) else none))) else (bif Nat.ble 67 pc then (bif Nat.ble 70 pc then (bif Nat.beq pc 70 then some (.goto 27, 97, 0, 0, none, some [0, 1, 2, 3, 4], []) else none) else (bif Nat.beq pc 67 then some (.iinc 2 1, 0, 0, 0, none, none, []) else none)) else (bif Nat.beq pc 66 then some (.istore_n 3, 0, 0, 0, none, none, []) else none))) else (bif Nat.ble 58 pc then (bif Nat.ble 62 pc then (bif Nat.ble 65 pc then (bif Nat.beq pc 65 then some (.iconst 0, 0, 0, 0, some [0, 1, 2, 4], none, []) else none) else (bif Nat.beq pc 62 then some (.goto 4, 66, 0, 0, none, some [0, 1, 2, 4], []) else none)) else (bif Nat.ble 61 pc then (bif Nat.beq pc 61 then some (.iconst 1, 0, 0, 0, none, none, []) else none) else (bif Nat.beq pc 58 then some (.if_icmp .ne 7, 65, 0, 0, none, some [0, 1, 2, 4], []) else none))) else (bif Nat.ble 55 pc then (bif Nat.ble 56 pc then (bif Nat.beq pc 56 then some (.iload 5, 0, 0, 0, none, none, []) else none) else (bif Nat.beq pc 55 then some (.iaload, 0, 0, 0, none, none, []) else none)) else (bif Nat.beq pc 54 then some (.iload_n 2, 0, 0, 0, none, none, []) else none))))) else (bif Nat.ble 24 pc then (bif Nat.ble 39 pc then (bif Nat.ble 44 pc then (bif Nat.ble 50 pc then (bif Nat.ble 51 pc then (bif Nat.beq pc 51 then some (.getfield 36, 4, 8, 115, none, none, []) else none) else (bif Nat.beq pc 50 then some (.aload_n 0, 0, 0, 0, none, none, []) else none)) else (bif Nat.ble 47 pc then (bif Nat.beq pc 47 then some (.if_icmp .ge 18, 65, 0, 0, none, some [0, 1, 2, 4], []) else none) else (bif Nat.beq pc 44 then some (.getfield 16, 4, 2, 109, none, none, []) else none))) else (bif Nat.ble 42 pc then (bif Nat.ble 43 pc then (bif Nat.beq pc 43 then some (.aload_n 0, 0, 0, 0, none, none, []) else none) else (bif Nat.beq pc 42 then some (.iload_n 2, 0, 0, 0, none, none, []) else none)) else (bif Nat.beq pc 39 then some (.ifCond .eq 26, 65, 0, 0, none, some [0, 1, 2, 4], []) else none))) else (bif Nat.ble 31 pc then (bif Nat.ble 35 pc then (bif Nat.ble 38 pc then (bif Nat.beq pc 38 then some (.iload_n 3, 0, 0, 0, none, none, []) else none) else (bif Nat.beq pc 35 then some (.if_icmp .eq 38, 73, 0, 0, none, some [0, 1, 2, 3, 4], []) else none)) else (bif Nat.ble 33 pc then (bif Nat.beq pc 33 then some (.bipush 32, 0, 0, 0, none, none, []) else none) else (bif Nat.beq pc 31 then some (.iload 5, 0, 0, 0, none, none, []) else none))) else (bif Nat.ble 26 pc then (bif Nat.ble 29 pc then (bif Nat.beq pc 29 then some (.istore 5, 0, 0, 0, none, none, []) else none) else (bif Nat.beq pc 26 then some (.invokevirtual 89, 88, 0, 211, none, none, []) else none)) else (bif Nat.beq pc 24 then some (.iload 4, 0, 0, 0, none, none, []) else none)))) else (bif Nat.ble 9 pc then (bif Nat.ble 14 pc then (bif Nat.ble 19 pc then (bif Nat.ble 22 pc then (bif Nat.beq pc 22 then some (.ldc 84, 2, 7, 209, none, none, []) else none) else (bif Nat.beq pc 19 then some (.if_icmp .ge 84, 103, 0, 0, none, some [], []) else none)) else (bif Nat.ble 16 pc then (bif Nat.beq pc 16 then some (.invokevirtual 86, 87, 0, 210, none, none, []) else none) else (bif Nat.beq pc 14 then some (.ldc 84, 2, 7, 209, none, none, []) else none))) else (bif Nat.ble 10 pc then (bif Nat.ble 12 pc then (bif Nat.beq pc 12 then some (.iload 4, 0, 0, 0, none, none, []) else none) else (bif Nat.beq pc 10 then some (.istore 4, 0, 0, 0, some [0, 1, 2, 3, 4], none, []) else none)) else (bif Nat.beq pc 9 then some (.iconst 0, 0, 0, 0, none, none, []) else none))) else (bif Nat.ble 3 pc then (bif Nat.ble 7 pc then (bif Nat.ble 8 pc then (bif Nat.beq pc 8 then some (.istore_n 3, 0, 0, 0, none, none, []) else none) else (bif Nat.beq pc 7 then some (.iconst 1, 0, 0, 0, none, none, []) else none)) else (bif Nat.ble 6 pc then (bif Nat.beq pc 6 then some (.istore_n 2, 0, 0, 0, none, none, []) else none) else (bif Nat.beq pc 3 then some (.getfield 13, 4, 1, 107, none, none, []) else none))) else (bif Nat.ble 1 pc then (bif Nat.ble 2 pc then (bif Nat.beq pc 2 then some (.aload_n 0, 0, 0, 0, none, none, []) else none) else (bif Nat.beq pc 1 then some (.istore_n 1, 0, 0, 0, none, none, []) else none)) else (bif Nat.beq pc 0 then some (.iconst 0, 0, 0, 0, none, none, []) else none)))))
abbrev k_Read_isIn : Nat := 45
noncomputable def tb_45 (pc : Nat) : Option am_I := bif Nat.ble 7 pc then (bif Nat.ble 11 pc then (bif Nat.ble 14 pc then (bif Nat.ble 15 pc then (bif Nat.beq pc 15 then some (.ireturn, 0, 0, 0, none, none, []) else none) else (bif Nat.beq pc 14 then some (.iconst 0, 0, 0, 0, some [], none, []) else none)) else (bif Nat.beq pc 11 then some (.goto 4, 15, 0, 0, none, some [], []) else none)) else (bif Nat.ble 10 pc then (bif Nat.beq pc 10 then some (.iconst 1, 0, 0, 0, none, none, []) else none) else (bif Nat.beq pc 7 then some (.if_icmp .gt 7, 14, 0, 0, none, some [], []) else none))) else (bif Nat.ble 2 pc then (bif Nat.ble 5 pc then (bif Nat.ble 6 pc then (bif Nat.beq pc 6 then some (.iload_n 2, 0, 0, 0, none, none, []) else none) else (bif Nat.beq pc 5 then some (.iload_n 0, 0, 0, 0, none, none, []) else none)) else (bif Nat.beq pc 2 then some (.if_icmp .lt 12, 14, 0, 0, none, some [], []) else none)) else (bif Nat.ble 1 pc then (bif Nat.beq pc 1 then some (.iload_n 1, 0, 0, 0, none, none, []) else none) else (bif Nat.beq pc 0 then some (.iload_n 0, 0, 0, 0, none, none, []) else none)))
abbrev k_Sheet_init : Nat := 46
noncomputable def tb_46 (pc : Nat) : Option am_I := bif Nat.ble 10 pc then (bif Nat.ble 15 pc then (bif Nat.ble 19 pc then (bif Nat.ble 22 pc then (bif Nat.beq pc 22 then some (.return_, 0, 0, 0, none, none, []) else none) else (bif Nat.beq pc 19 then some (.putfield 16, 5, 2, 10130, none, none, []) else none)) else (bif Nat.ble 17 pc then (bif Nat.beq pc 17 then some (.newarray .int, 0, 0, 0, none, none, []) else none) else (bif Nat.beq pc 15 then some (.bipush 40, 0, 0, 0, none, none, []) else none))) else (bif Nat.ble 11 pc then (bif Nat.ble 14 pc then (bif Nat.beq pc 14 then some (.aload_n 0, 0, 0, 0, none, none, []) else none) else (bif Nat.beq pc 11 then some (.putfield 13, 5, 1, 10129, none, none, []) else none)) else (bif Nat.beq pc 10 then some (.iconst 0, 0, 0, 0, none, none, []) else none))) else (bif Nat.ble 5 pc then (bif Nat.ble 6 pc then (bif Nat.ble 9 pc then (bif Nat.beq pc 9 then some (.aload_n 0, 0, 0, 0, none, none, []) else none) else (bif Nat.beq pc 6 then some (.putfield 9, 5, 0, 10128, none, none, []) else none)) else (bif Nat.beq pc 5 then some (.iconst (-1), 0, 0, 0, none, none, []) else none)) else (bif Nat.ble 1 pc then (bif Nat.ble 4 pc then (bif Nat.beq pc 4 then some (.aload_n 0, 0, 0, 0, none, none, []) else none) else (bif Nat.beq pc 1 then some (.invokespecial 1, 9999, 0, 10127, none, none, []) else none)) else (bif Nat.beq pc 0 then some (.aload_n 0, 0, 0, 0, none, none, []) else none)))
abbrev k_Loc_init : Nat := 47
noncomputable def tb_47 (pc : Nat) : Option am_I := bif Nat.ble 71 pc then (bif Nat.ble 101 pc then (bif Nat.ble 113 pc then (bif Nat.ble 121 pc then (bif Nat.ble 125 pc then (bif Nat.ble 128 pc then (bif Nat.ble 131 pc then (bif Nat.beq pc 131 then some (.return_, 0, 0, 0, none, none, []) else none) else (bif Nat.beq pc 128 then some (.goto (-21), 107, 0, 0, none, some [0, 1], []) else none)) else (bif Nat.beq pc 125 then some (.iinc 1 1, 0, 0, 0, none, none, []) else none)) else (bif Nat.ble 124 pc then (bif Nat.beq pc 124 then some (.aastore, 0, 0, 0, none, none, []) else none) else (bif Nat.beq pc 121 then some (.invokespecial 63, 46, 1, 10124, none, none, []) else none))) else (bif Nat.ble 117 pc then (bif Nat.ble 120 pc then (bif Nat.beq pc 120 then some (.dup, 0, 0, 0, none, none, []) else none) else (bif Nat.beq pc 117 then some (.new 42, 5, 0, 10121, none, none, []) else none)) else (bif Nat.ble 116 pc then (bif Nat.beq pc 116 then some (.iload_n 1, 0, 0, 0, none, none, []) else none) else (bif Nat.beq pc 113 then some (.getfield 44, 6, 5, 10143, none, none, []) else none)))) else (bif Nat.ble 107 pc then (bif Nat.ble 109 pc then (bif Nat.ble 112 pc then (bif Nat.beq pc 112 then some (.aload_n 0, 0, 0, 0, none, none, []) else none) else (bif Nat.beq pc 109 then some (.if_icmp .ge 22, 131, 0, 0, none, some [], []) else none)) else (bif Nat.ble 108 pc then (bif Nat.beq pc 108 then some (.iconst 4, 0, 0, 0, none, none, []) else none) else (bif Nat.beq pc 107 then some (.iload_n 1, 0, 0, 0, none, none, []) else none))) else (bif Nat.ble 105 pc then (bif Nat.ble 106 pc then (bif Nat.beq pc 106 then some (.istore_n 1, 0, 0, 0, some [0, 1], none, []) else none) else (bif Nat.beq pc 105 then some (.iconst 0, 0, 0, 0, none, none, []) else none)) else (bif Nat.ble 102 pc then (bif Nat.beq pc 102 then some (.putfield 59, 6, 9, 10147, none, none, []) else none) else (bif Nat.beq pc 101 then some (.iconst 0, 0, 0, 0, none, none, []) else none))))) else (bif Nat.ble 87 pc then (bif Nat.ble 95 pc then (bif Nat.ble 97 pc then (bif Nat.ble 100 pc then (bif Nat.beq pc 100 then some (.aload_n 0, 0, 0, 0, none, none, []) else none) else (bif Nat.beq pc 97 then some (.putfield 55, 6, 8, 10146, none, none, []) else none)) else (bif Nat.ble 96 pc then (bif Nat.beq pc 96 then some (.iconst 0, 0, 0, 0, none, none, []) else none) else (bif Nat.beq pc 95 then some (.aload_n 0, 0, 0, 0, none, none, []) else none))) else (bif Nat.ble 90 pc then (bif Nat.ble 92 pc then (bif Nat.beq pc 92 then some (.putfield 52, 6, 7, 10145, none, none, []) else none) else (bif Nat.beq pc 90 then some (.newarray .int, 0, 0, 0, none, none, []) else none)) else (bif Nat.ble 88 pc then (bif Nat.beq pc 88 then some (.bipush 10, 0, 0, 0, none, none, []) else none) else (bif Nat.beq pc 87 then some (.aload_n 0, 0, 0, 0, none, none, []) else none)))) else (bif Nat.ble 79 pc then (bif Nat.ble 82 pc then (bif Nat.ble 84 pc then (bif Nat.beq pc 84 then some (.putfield 48, 6, 6, 10144, none, none, []) else none) else (bif Nat.beq pc 82 then some (.newarray .int, 0, 0, 0, none, none, []) else none)) else (bif Nat.ble 80 pc then (bif Nat.beq pc 80 then some (.bipush 8, 0, 0, 0, none, none, []) else none) else (bif Nat.beq pc 79 then some (.aload_n 0, 0, 0, 0, none, none, []) else none))) else (bif Nat.ble 73 pc then (bif Nat.ble 76 pc then (bif Nat.beq pc 76 then some (.putfield 44, 6, 5, 10143, none, none, []) else none) else (bif Nat.beq pc 73 then some (.anewarray 42, 0, 0, 10121, none, none, []) else none)) else (bif Nat.ble 72 pc then (bif Nat.beq pc 72 then some (.iconst 4, 0, 0, 0, none, none, []) else none) else (bif Nat.beq pc 71 then some (.aload_n 0, 0, 0, 0, none, none, []) else none)))))) else (bif Nat.ble 32 pc then (bif Nat.ble 50 pc then (bif Nat.ble 60 pc then (bif Nat.ble 62 pc then (bif Nat.ble 65 pc then (bif Nat.ble 68 pc then (bif Nat.beq pc 68 then some (.putfield 38, 6, 4, 10142, none, none, []) else none) else (bif Nat.beq pc 65 then some (.invokespecial 37, 0, 0, 10110, none, none, []) else none)) else (bif Nat.beq pc 62 then some (.getfield 10, 6, 0, 10138, none, none, []) else none)) else (bif Nat.ble 61 pc then (bif Nat.beq pc 61 then some (.aload_n 0, 0, 0, 0, none, none, []) else none) else (bif Nat.beq pc 60 then some (.dup, 0, 0, 0, none, none, []) else none))) else (bif Nat.ble 56 pc then (bif Nat.ble 57 pc then (bif Nat.beq pc 57 then some (.new 35, 0, 0, 10108, none, none, []) else none) else (bif Nat.beq pc 56 then some (.aload_n 0, 0, 0, 0, none, none, []) else none)) else (bif Nat.ble 53 pc then (bif Nat.beq pc 53 then some (.putfield 31, 6, 3, 10141, none, none, []) else none) else (bif Nat.beq pc 50 then some (.invokespecial 30, 11, 0, 10091, none, none, []) else none)))) else (bif Nat.ble 42 pc then (bif Nat.ble 46 pc then (bif Nat.ble 47 pc then (bif Nat.beq pc 47 then some (.getfield 10, 6, 0, 10138, none, none, []) else none) else (bif Nat.beq pc 46 then some (.aload_n 0, 0, 0, 0, none, none, []) else none)) else (bif Nat.ble 45 pc then (bif Nat.beq pc 45 then some (.dup, 0, 0, 0, none, none, []) else none) else (bif Nat.beq pc 42 then some (.new 28, 2, 0, 10089, none, none, []) else none))) else (bif Nat.ble 38 pc then (bif Nat.ble 41 pc then (bif Nat.beq pc 41 then some (.aload_n 0, 0, 0, 0, none, none, []) else none) else (bif Nat.beq pc 38 then some (.putfield 24, 6, 2, 10140, none, none, []) else none)) else (bif Nat.ble 35 pc then (bif Nat.beq pc 35 then some (.invokespecial 21, 4, 0, 95, none, none, []) else none) else (bif Nat.beq pc 32 then some (.getfield 10, 6, 0, 10138, none, none, []) else none))))) else (bif Nat.ble 16 pc then (bif Nat.ble 26 pc then (bif Nat.ble 30 pc then (bif Nat.ble 31 pc then (bif Nat.beq pc 31 then some (.aload_n 0, 0, 0, 0, none, none, []) else none) else (bif Nat.beq pc 30 then some (.dup, 0, 0, 0, none, none, []) else none)) else (bif Nat.ble 27 pc then (bif Nat.beq pc 27 then some (.new 19, 1, 0, 93, none, none, []) else none) else (bif Nat.beq pc 26 then some (.aload_n 0, 0, 0, 0, none, none, []) else none))) else (bif Nat.ble 20 pc then (bif Nat.ble 23 pc then (bif Nat.beq pc 23 then some (.putfield 16, 6, 1, 10139, none, none, []) else none) else (bif Nat.beq pc 20 then some (.invokespecial 9, 15, 1, 32, none, none, []) else none)) else (bif Nat.ble 19 pc then (bif Nat.beq pc 19 then some (.dup, 0, 0, 0, none, none, []) else none) else (bif Nat.beq pc 16 then some (.new 7, 3, 0, 30, none, none, []) else none)))) else (bif Nat.ble 8 pc then (bif Nat.ble 12 pc then (bif Nat.ble 15 pc then (bif Nat.beq pc 15 then some (.aload_n 0, 0, 0, 0, none, none, []) else none) else (bif Nat.beq pc 12 then some (.putfield 10, 6, 0, 10138, none, none, []) else none)) else (bif Nat.ble 9 pc then (bif Nat.beq pc 9 then some (.invokespecial 9, 15, 1, 32, none, none, []) else none) else (bif Nat.beq pc 8 then some (.dup, 0, 0, 0, none, none, []) else none))) else (bif Nat.ble 4 pc then (bif Nat.ble 5 pc then (bif Nat.beq pc 5 then some (.new 7, 3, 0, 30, none, none, []) else none) else (bif Nat.beq pc 4 then some (.aload_n 0, 0, 0, 0, none, none, []) else none)) else (bif Nat.ble 1 pc then (bif Nat.beq pc 1 then some (.invokespecial 1, 9999, 0, 27, none, none, []) else none) else (bif Nat.beq pc 0 then some (.aload_n 0, 0, 0, 0, none, none, []) else none))))))
abbrev k_Loc_count : Nat := 48
noncomputable def tb_48 (pc : Nat) : Option am_I := bif Nat.ble 72 pc then (bif Nat.ble 88 pc then (bif Nat.ble 96 pc then (bif Nat.ble 102 pc then (bif Nat.ble 103 pc then (bif Nat.ble 105 pc then (bif Nat.beq pc 105 then some (.ireturn, 0, 0, 0, none, none, []) else none) else (bif Nat.beq pc 103 then some (.bipush (-2), 0, 0, 0, none, none, []) else none)) else (bif Nat.beq pc 102 then some (.ireturn, 0, 0, 0, none, none, []) else none)) else (bif Nat.ble 99 pc then (bif Nat.beq pc 99 then some (.getfield 86, 4, 0, 106, none, none, []) else none) else (bif Nat.beq pc 96 then some (.getfield 82, 1, 0, 10061, none, none, []) else none))) else (bif Nat.ble 92 pc then (bif Nat.ble 93 pc then (bif Nat.beq pc 93 then some (.getfield 24, 6, 2, 10140, none, none, []) else none) else (bif Nat.beq pc 92 then some (.aload_n 0, 0, 0, 0, none, none, []) else none)) else (bif Nat.ble 91 pc then (bif Nat.beq pc 91 then some (.ireturn, 0, 0, 0, none, none, []) else none) else (bif Nat.beq pc 88 then some (.getfield 79, 1, 2, 10065, none, none, []) else none)))) else (bif Nat.ble 80 pc then (bif Nat.ble 84 pc then (bif Nat.ble 85 pc then (bif Nat.beq pc 85 then some (.getfield 24, 6, 2, 10140, none, none, []) else none) else (bif Nat.beq pc 84 then some (.aload_n 0, 0, 0, 0, none, none, []) else none)) else (bif Nat.ble 83 pc then (bif Nat.beq pc 83 then some (.ireturn, 0, 0, 0, none, none, []) else none) else (bif Nat.beq pc 80 then some (.getfield 76, 1, 1, 10063, none, none, []) else none))) else (bif Nat.ble 76 pc then (bif Nat.ble 77 pc then (bif Nat.beq pc 77 then some (.getfield 24, 6, 2, 10140, none, none, []) else none) else (bif Nat.beq pc 76 then some (.aload_n 0, 0, 0, 0, none, none, []) else none)) else (bif Nat.ble 75 pc then (bif Nat.beq pc 75 then some (.ireturn, 0, 0, 0, none, none, []) else none) else (bif Nat.beq pc 72 then some (.getfield 73, 3, 3, 45, none, none, []) else none))))) else (bif Nat.ble 56 pc then (bif Nat.ble 64 pc then (bif Nat.ble 68 pc then (bif Nat.ble 69 pc then (bif Nat.beq pc 69 then some (.getfield 10, 6, 0, 10138, none, none, []) else none) else (bif Nat.beq pc 68 then some (.aload_n 0, 0, 0, 0, none, none, []) else none)) else (bif Nat.ble 67 pc then (bif Nat.beq pc 67 then some (.ireturn, 0, 0, 0, none, none, []) else none) else (bif Nat.beq pc 64 then some (.getfield 70, 3, 1, 40, none, none, []) else none))) else (bif Nat.ble 60 pc then (bif Nat.ble 61 pc then (bif Nat.beq pc 61 then some (.getfield 10, 6, 0, 10138, none, none, []) else none) else (bif Nat.beq pc 60 then some (.aload_n 0, 0, 0, 0, none, none, []) else none)) else (bif Nat.ble 59 pc then (bif Nat.beq pc 59 then some (.ireturn, 0, 0, 0, none, none, []) else none) else (bif Nat.beq pc 56 then some (.getfield 67, 3, 2, 43, none, none, []) else none)))) else (bif Nat.ble 48 pc then (bif Nat.ble 52 pc then (bif Nat.ble 53 pc then (bif Nat.beq pc 53 then some (.getfield 10, 6, 0, 10138, none, none, []) else none) else (bif Nat.beq pc 52 then some (.aload_n 0, 0, 0, 0, none, none, []) else none)) else (bif Nat.ble 51 pc then (bif Nat.beq pc 51 then some (.ireturn, 0, 0, 0, none, none, []) else none) else (bif Nat.beq pc 48 then some (.getfield 64, 3, 0, 37, none, none, []) else none))) else (bif Nat.ble 44 pc then (bif Nat.ble 45 pc then (bif Nat.beq pc 45 then some (.getfield 10, 6, 0, 10138, none, none, []) else none) else (bif Nat.beq pc 44 then some (.aload_n 0, 0, 0, 0, none, none, []) else none)) else (bif Nat.ble 1 pc then (bif Nat.beq pc 1 then some (.tableswitch 102 0 6 #[43, 51, 59, 67, 75, 83, 91], 0, 0, 0, none, none, [(103, []), (44, [0]), (52, [0]), (60, [0]), (68, [0]), (76, [0]), (84, [0]), (92, [0])]) else none) else (bif Nat.beq pc 0 then some (.iload_n 1, 0, 0, 0, none, none, []) else none)))))
abbrev k_Loc_feed : Nat := 49
noncomputable def tb_49 (pc : Nat) : Option am_I := bif Nat.ble 73 pc then (bif Nat.ble 109 pc then (bif Nat.ble 129 pc then (bif Nat.ble 140 pc then (bif Nat.ble 144 pc then (bif Nat.ble 147 pc then (bif Nat.ble 150 pc then (bif Nat.beq pc 150 then some (.ireturn, 0, 0, 0, none, none, []) else none) else (bif Nat.beq pc 147 then some (.getfield 86, 4, 0, 106, none, none, []) else none)) else (bif Nat.beq pc 144 then some (.getfield 82, 1, 0, 10061, none, none, []) else none)) else (bif Nat.ble 141 pc then (bif Nat.beq pc 141 then some (.getfield 24, 6, 2, 10140, none, none, []) else none) else (bif Nat.beq pc 140 then some (.aload_n 0, 0, 0, 0, none, none, []) else none))) else (bif Nat.ble 134 pc then (bif Nat.ble 137 pc then (bif Nat.beq pc 137 then some (.goto (-62), 75, 0, 0, none, some [0, 1, 2, 3, 4, 5, 6, 7], []) else none) else (bif Nat.beq pc 134 then some (.iinc 7 1, 0, 0, 0, none, none, []) else none)) else (bif Nat.ble 131 pc then (bif Nat.beq pc 131 then some (.invokevirtual 95, 33, 0, 30138, none, none, []) else none) else (bif Nat.beq pc 129 then some (.iload 6, 0, 0, 0, some [0, 1, 2, 3, 4, 5, 6, 7], none, []) else none)))) else (bif Nat.ble 118 pc then (bif Nat.ble 121 pc then (bif Nat.ble 124 pc then (bif Nat.ble 126 pc then (bif Nat.beq pc 126 then some (.goto 5, 131, 0, 0, none, some [0, 1, 2, 3, 4, 5, 6, 7], []) else none) else (bif Nat.beq pc 124 then some (.iload 5, 0, 0, 0, none, none, []) else none)) else (bif Nat.beq pc 121 then some (.if_icmp .ne 8, 129, 0, 0, none, some [0, 1, 2, 3, 4, 5, 6, 7], []) else none)) else (bif Nat.ble 120 pc then (bif Nat.beq pc 120 then some (.iconst 3, 0, 0, 0, none, none, []) else none) else (bif Nat.beq pc 118 then some (.iload 7, 0, 0, 0, none, none, []) else none))) else (bif Nat.ble 113 pc then (bif Nat.ble 115 pc then (bif Nat.beq pc 115 then some (.goto 16, 131, 0, 0, none, some [0, 1, 2, 3, 4, 5, 6, 7], []) else none) else (bif Nat.beq pc 113 then some (.iload 4, 0, 0, 0, none, none, []) else none)) else (bif Nat.ble 110 pc then (bif Nat.beq pc 110 then some (.if_icmp .ne 8, 118, 0, 0, none, some [0, 1, 2, 3, 4, 5, 6, 7], []) else none) else (bif Nat.beq pc 109 then some (.iconst 2, 0, 0, 0, none, none, []) else none))))) else (bif Nat.ble 90 pc then (bif Nat.ble 99 pc then (bif Nat.ble 103 pc then (bif Nat.ble 104 pc then (bif Nat.ble 107 pc then (bif Nat.beq pc 107 then some (.iload 7, 0, 0, 0, none, none, []) else none) else (bif Nat.beq pc 104 then some (.goto 27, 131, 0, 0, none, some [0, 1, 2, 3, 4, 5, 6, 7], []) else none)) else (bif Nat.beq pc 103 then some (.iload_n 3, 0, 0, 0, none, none, []) else none)) else (bif Nat.ble 100 pc then (bif Nat.beq pc 100 then some (.if_icmp .ne 7, 107, 0, 0, none, some [0, 1, 2, 3, 4, 5, 6, 7], []) else none) else (bif Nat.beq pc 99 then some (.iconst 1, 0, 0, 0, none, none, []) else none))) else (bif Nat.ble 94 pc then (bif Nat.ble 97 pc then (bif Nat.beq pc 97 then some (.iload 7, 0, 0, 0, none, none, []) else none) else (bif Nat.beq pc 94 then some (.goto 37, 131, 0, 0, none, some [0, 1, 2, 3, 4, 5, 6, 7], []) else none)) else (bif Nat.ble 93 pc then (bif Nat.beq pc 93 then some (.iload_n 2, 0, 0, 0, none, none, []) else none) else (bif Nat.beq pc 90 then some (.ifCond .ne 7, 97, 0, 0, none, some [0, 1, 2, 3, 4, 5, 6, 7], []) else none)))) else (bif Nat.ble 81 pc then (bif Nat.ble 85 pc then (bif Nat.ble 88 pc then (bif Nat.beq pc 88 then some (.iload 7, 0, 0, 0, none, none, []) else none) else (bif Nat.beq pc 85 then some (.getfield 82, 1, 0, 10061, none, none, []) else none)) else (bif Nat.ble 82 pc then (bif Nat.beq pc 82 then some (.getfield 24, 6, 2, 10140, none, none, []) else none) else (bif Nat.beq pc 81 then some (.aload_n 0, 0, 0, 0, none, none, []) else none))) else (bif Nat.ble 77 pc then (bif Nat.ble 78 pc then (bif Nat.beq pc 78 then some (.if_icmp .ge 62, 140, 0, 0, none, some [0], []) else none) else (bif Nat.beq pc 77 then some (.iload_n 1, 0, 0, 0, none, none, []) else none)) else (bif Nat.ble 75 pc then (bif Nat.beq pc 75 then some (.iload 7, 0, 0, 0, none, none, []) else none) else (bif Nat.beq pc 73 then some (.istore 7, 0, 0, 0, some [0, 1, 2, 3, 4, 5, 6, 7], none, []) else none)))))) else (bif Nat.ble 37 pc then (bif Nat.ble 55 pc then (bif Nat.ble 63 pc then (bif Nat.ble 69 pc then (bif Nat.ble 71 pc then (bif Nat.ble 72 pc then (bif Nat.beq pc 72 then some (.iconst 0, 0, 0, 0, none, none, []) else none) else (bif Nat.beq pc 71 then some (.ireturn, 0, 0, 0, none, none, []) else none)) else (bif Nat.beq pc 69 then some (.bipush (-4), 0, 0, 0, none, none, []) else none)) else (bif Nat.ble 66 pc then (bif Nat.beq pc 66 then some (.if_icmp .le 6, 72, 0, 0, none, some [0, 1, 2, 3, 4, 5, 6], []) else none) else (bif Nat.beq pc 63 then some (.sipush 160, 0, 0, 0, none, none, []) else none))) else (bif Nat.ble 61 pc then (bif Nat.ble 62 pc then (bif Nat.beq pc 62 then some (.iadd, 0, 0, 0, none, none, []) else none) else (bif Nat.beq pc 61 then some (.iload_n 1, 0, 0, 0, none, none, []) else none)) else (bif Nat.ble 58 pc then (bif Nat.beq pc 58 then some (.getfield 86, 4, 0, 106, none, none, []) else none) else (bif Nat.beq pc 55 then some (.getfield 82, 1, 0, 10061, none, none, []) else none)))) else (bif Nat.ble 48 pc then (bif Nat.ble 51 pc then (bif Nat.ble 52 pc then (bif Nat.beq pc 52 then some (.getfield 24, 6, 2, 10140, none, none, []) else none) else (bif Nat.beq pc 51 then some (.aload_n 0, 0, 0, 0, none, none, []) else none)) else (bif Nat.ble 50 pc then (bif Nat.beq pc 50 then some (.ireturn, 0, 0, 0, none, none, []) else none) else (bif Nat.beq pc 48 then some (.bipush (-2), 0, 0, 0, none, none, []) else none))) else (bif Nat.ble 42 pc then (bif Nat.ble 45 pc then (bif Nat.beq pc 45 then some (.ifCond .ne 6, 51, 0, 0, some [], some [0, 1, 2, 3, 4, 5, 6], []) else none) else (bif Nat.beq pc 42 then some (.invokestatic 91, 65, 0, 30135, none, none, []) else none)) else (bif Nat.ble 40 pc then (bif Nat.beq pc 40 then some (.iload 6, 0, 0, 0, none, none, []) else none) else (bif Nat.beq pc 37 then some (.ifCond .eq 11, 48, 0, 0, none, some [], []) else none))))) else (bif Nat.ble 14 pc then (bif Nat.ble 24 pc then (bif Nat.ble 29 pc then (bif Nat.ble 32 pc then (bif Nat.ble 34 pc then (bif Nat.beq pc 34 then some (.invokestatic 91, 65, 0, 30135, none, none, []) else none) else (bif Nat.beq pc 32 then some (.iload 5, 0, 0, 0, none, none, []) else none)) else (bif Nat.beq pc 29 then some (.ifCond .eq 19, 48, 0, 0, none, some [], []) else none)) else (bif Nat.ble 26 pc then (bif Nat.beq pc 26 then some (.invokestatic 91, 65, 0, 30135, none, none, []) else none) else (bif Nat.beq pc 24 then some (.iload 4, 0, 0, 0, none, none, []) else none))) else (bif Nat.ble 18 pc then (bif Nat.ble 21 pc then (bif Nat.beq pc 21 then some (.ifCond .eq 27, 48, 0, 0, none, some [], []) else none) else (bif Nat.beq pc 18 then some (.invokestatic 91, 65, 0, 30135, none, none, []) else none)) else (bif Nat.ble 17 pc then (bif Nat.beq pc 17 then some (.iload_n 3, 0, 0, 0, none, none, []) else none) else (bif Nat.beq pc 14 then some (.ifCond .eq 34, 48, 0, 0, none, some [], []) else none)))) else (bif Nat.ble 6 pc then (bif Nat.ble 10 pc then (bif Nat.ble 11 pc then (bif Nat.beq pc 11 then some (.invokestatic 91, 65, 0, 30135, none, none, []) else none) else (bif Nat.beq pc 10 then some (.iload_n 2, 0, 0, 0, none, none, []) else none)) else (bif Nat.ble 7 pc then (bif Nat.beq pc 7 then some (.if_icmp .gt 41, 48, 0, 0, none, some [], []) else none) else (bif Nat.beq pc 6 then some (.iconst 5, 0, 0, 0, none, none, []) else none))) else (bif Nat.ble 2 pc then (bif Nat.ble 5 pc then (bif Nat.beq pc 5 then some (.iload_n 1, 0, 0, 0, none, none, []) else none) else (bif Nat.beq pc 2 then some (.if_icmp .lt 46, 48, 0, 0, none, some [], []) else none)) else (bif Nat.ble 1 pc then (bif Nat.beq pc 1 then some (.iconst 1, 0, 0, 0, none, none, []) else none) else (bif Nat.beq pc 0 then some (.iload_n 1, 0, 0, 0, none, none, []) else none))))))
abbrev k_Loc_text : Nat := 50
noncomputable def tb_50 (pc : Nat) : Option am_I := bif Nat.ble 26 pc then (bif Nat.ble 39 pc then (bif Nat.ble 46 pc then (bif Nat.ble 49 pc then (bif Nat.ble 50 pc then (bif Nat.beq pc 50 then some (.ireturn, 0, 0, 0, none, none, []) else none) else (bif Nat.beq pc 49 then some (.isub, 0, 0, 0, some [], none, []) else none)) else (bif Nat.beq pc 46 then some (.getfield 103, 4, 1, 108, none, none, []) else none)) else (bif Nat.ble 40 pc then (bif Nat.ble 43 pc then (bif Nat.beq pc 43 then some (.getfield 82, 1, 0, 10061, none, none, []) else none) else (bif Nat.beq pc 40 then some (.getfield 24, 6, 2, 10140, none, none, []) else none)) else (bif Nat.beq pc 39 then some (.aload_n 0, 0, 0, 0, none, none, []) else none))) else (bif Nat.ble 33 pc then (bif Nat.ble 34 pc then (bif Nat.ble 37 pc then (bif Nat.beq pc 37 then some (.bipush (-100), 0, 0, 0, none, none, []) else none) else (bif Nat.beq pc 34 then some (.goto 16, 50, 0, 0, none, some [], []) else none)) else (bif Nat.beq pc 33 then some (.isub, 0, 0, 0, none, none, []) else none)) else (bif Nat.ble 29 pc then (bif Nat.ble 32 pc then (bif Nat.beq pc 32 then some (.iconst 1, 0, 0, 0, none, none, []) else none) else (bif Nat.beq pc 29 then some (.getfield 76, 1, 1, 10063, none, none, []) else none)) else (bif Nat.beq pc 26 then some (.getfield 24, 6, 2, 10140, none, none, []) else none)))) else (bif Nat.ble 14 pc then (bif Nat.ble 19 pc then (bif Nat.ble 22 pc then (bif Nat.ble 25 pc then (bif Nat.beq pc 25 then some (.aload_n 0, 0, 0, 0, none, none, []) else none) else (bif Nat.beq pc 22 then some (.ifCond .eq 15, 37, 0, 0, none, some [0], []) else none)) else (bif Nat.beq pc 19 then some (.invokevirtual 99, 5, 0, 30143, none, none, []) else none)) else (bif Nat.ble 15 pc then (bif Nat.ble 16 pc then (bif Nat.beq pc 16 then some (.getfield 24, 6, 2, 10140, none, none, []) else none) else (bif Nat.beq pc 15 then some (.aload_n 0, 0, 0, 0, none, none, []) else none)) else (bif Nat.beq pc 14 then some (.ireturn, 0, 0, 0, none, none, []) else none))) else (bif Nat.ble 7 pc then (bif Nat.ble 9 pc then (bif Nat.ble 12 pc then (bif Nat.beq pc 12 then some (.bipush (-4), 0, 0, 0, none, none, []) else none) else (bif Nat.beq pc 9 then some (.if_icmp .lt 6, 15, 0, 0, none, some [0], []) else none)) else (bif Nat.beq pc 7 then some (.bipush 6, 0, 0, 0, none, none, []) else none)) else (bif Nat.ble 1 pc then (bif Nat.ble 4 pc then (bif Nat.beq pc 4 then some (.getfield 76, 1, 1, 10063, none, none, []) else none) else (bif Nat.beq pc 1 then some (.getfield 24, 6, 2, 10140, none, none, []) else none)) else (bif Nat.beq pc 0 then some (.aload_n 0, 0, 0, 0, none, none, []) else none))))
abbrev k_Loc_force : Nat := 51
noncomputable def tb_51 (pc : Nat) : Option am_I := bif Nat.ble 18 pc then (bif Nat.ble 27 pc then (bif Nat.ble 31 pc then (bif Nat.ble 34 pc then (bif Nat.ble 35 pc then (bif Nat.beq pc 35 then some (.ireturn, 0, 0, 0, none, none, []) else none) else (bif Nat.beq pc 34 then some (.iload_n 2, 0, 0, 0, none, none, []) else none)) else (bif Nat.beq pc 31 then some (.putfield 79, 1, 2, 10065, none, none, []) else none)) else (bif Nat.ble 30 pc then (bif Nat.beq pc 30 then some (.iload_n 1, 0, 0, 0, none, none, []) else none) else (bif Nat.beq pc 27 then some (.getfield 24, 6, 2, 10140, none, none, []) else none))) else (bif Nat.ble 22 pc then (bif Nat.ble 25 pc then (bif Nat.ble 26 pc then (bif Nat.beq pc 26 then some (.aload_n 0, 0, 0, 0, none, none, []) else none) else (bif Nat.beq pc 25 then some (.istore_n 2, 0, 0, 0, none, none, []) else none)) else (bif Nat.beq pc 22 then some (.getfield 79, 1, 2, 10065, none, none, []) else none)) else (bif Nat.ble 19 pc then (bif Nat.beq pc 19 then some (.getfield 24, 6, 2, 10140, none, none, []) else none) else (bif Nat.beq pc 18 then some (.aload_n 0, 0, 0, 0, none, none, []) else none)))) else (bif Nat.ble 6 pc then (bif Nat.ble 12 pc then (bif Nat.ble 15 pc then (bif Nat.ble 17 pc then (bif Nat.beq pc 17 then some (.ireturn, 0, 0, 0, none, none, []) else none) else (bif Nat.beq pc 15 then some (.bipush (-2), 0, 0, 0, none, none, []) else none)) else (bif Nat.beq pc 12 then some (.if_icmp .lt 6, 18, 0, 0, some [], some [0, 1], []) else none)) else (bif Nat.ble 9 pc then (bif Nat.beq pc 9 then some (.getfield 76, 1, 1, 10063, none, none, []) else none) else (bif Nat.beq pc 6 then some (.getfield 24, 6, 2, 10140, none, none, []) else none))) else (bif Nat.ble 4 pc then (bif Nat.ble 5 pc then (bif Nat.beq pc 5 then some (.aload_n 0, 0, 0, 0, none, none, []) else none) else (bif Nat.beq pc 4 then some (.iload_n 1, 0, 0, 0, none, none, []) else none)) else (bif Nat.ble 1 pc then (bif Nat.beq pc 1 then some (.ifCond .lt 14, 15, 0, 0, none, some [], []) else none) else (bif Nat.beq pc 0 then some (.iload_n 1, 0, 0, 0, none, none, []) else none))))
abbrev k_Loc_thing : Nat := 52
noncomputable def tb_52 (pc : Nat) : Option am_I := bif Nat.ble 34 pc then (bif Nat.ble 48 pc then (bif Nat.ble 56 pc then (bif Nat.ble 60 pc then (bif Nat.ble 61 pc then (bif Nat.beq pc 61 then some (.ireturn, 0, 0, 0, none, none, []) else none) else (bif Nat.beq pc 60 then some (.isub, 0, 0, 0, none, none, []) else none)) else (bif Nat.ble 59 pc then (bif Nat.beq pc 59 then some (.iconst 1, 0, 0, 0, none, none, []) else none) else (bif Nat.beq pc 56 then some (.getfield 64, 3, 0, 37, none, none, []) else none))) else (bif Nat.ble 52 pc then (bif Nat.ble 53 pc then (bif Nat.beq pc 53 then some (.getfield 10, 6, 0, 10138, none, none, []) else none) else (bif Nat.beq pc 52 then some (.aload_n 0, 0, 0, 0, none, none, []) else none)) else (bif Nat.ble 49 pc then (bif Nat.beq pc 49 then some (.invokevirtual 122, 22, 0, 20104, none, none, []) else none) else (bif Nat.beq pc 48 then some (.iload_n 3, 0, 0, 0, none, none, []) else none)))) else (bif Nat.ble 42 pc then (bif Nat.ble 46 pc then (bif Nat.ble 47 pc then (bif Nat.beq pc 47 then some (.iload_n 2, 0, 0, 0, none, none, []) else none) else (bif Nat.beq pc 46 then some (.iload_n 1, 0, 0, 0, none, none, []) else none)) else (bif Nat.ble 43 pc then (bif Nat.beq pc 43 then some (.getfield 10, 6, 0, 10138, none, none, []) else none) else (bif Nat.beq pc 42 then some (.aload_n 0, 0, 0, 0, none, none, []) else none))) else (bif Nat.ble 39 pc then (bif Nat.ble 41 pc then (bif Nat.beq pc 41 then some (.ireturn, 0, 0, 0, none, none, []) else none) else (bif Nat.beq pc 39 then some (.bipush (-4), 0, 0, 0, none, none, []) else none)) else (bif Nat.ble 36 pc then (bif Nat.beq pc 36 then some (.if_icmp .lt 6, 42, 0, 0, none, some [0, 1, 2, 3], []) else none) else (bif Nat.beq pc 34 then some (.bipush 8, 0, 0, 0, none, none, []) else none))))) else (bif Nat.ble 17 pc then (bif Nat.ble 26 pc then (bif Nat.ble 28 pc then (bif Nat.ble 31 pc then (bif Nat.beq pc 31 then some (.getfield 64, 3, 0, 37, none, none, []) else none) else (bif Nat.beq pc 28 then some (.getfield 10, 6, 0, 10138, none, none, []) else none)) else (bif Nat.ble 27 pc then (bif Nat.beq pc 27 then some (.aload_n 0, 0, 0, 0, none, none, []) else none) else (bif Nat.beq pc 26 then some (.ireturn, 0, 0, 0, none, none, []) else none))) else (bif Nat.ble 21 pc then (bif Nat.ble 24 pc then (bif Nat.beq pc 24 then some (.bipush (-2), 0, 0, 0, none, none, []) else none) else (bif Nat.beq pc 21 then some (.ifCond .ne 6, 27, 0, 0, some [], some [0, 1, 2, 3], []) else none)) else (bif Nat.ble 18 pc then (bif Nat.beq pc 18 then some (.invokestatic 109, 67, 0, 20101, none, none, []) else none) else (bif Nat.beq pc 17 then some (.iload_n 3, 0, 0, 0, none, none, []) else none)))) else (bif Nat.ble 8 pc then (bif Nat.ble 12 pc then (bif Nat.ble 14 pc then (bif Nat.beq pc 14 then some (.if_icmp .gt 10, 24, 0, 0, none, some [], []) else none) else (bif Nat.beq pc 12 then some (.bipush 9, 0, 0, 0, none, none, []) else none)) else (bif Nat.ble 11 pc then (bif Nat.beq pc 11 then some (.iload_n 2, 0, 0, 0, none, none, []) else none) else (bif Nat.beq pc 8 then some (.ifCond .lt 16, 24, 0, 0, none, some [], []) else none))) else (bif Nat.ble 4 pc then (bif Nat.ble 7 pc then (bif Nat.beq pc 7 then some (.iload_n 2, 0, 0, 0, none, none, []) else none) else (bif Nat.beq pc 4 then some (.ifCond .eq 20, 24, 0, 0, none, some [], []) else none)) else (bif Nat.ble 1 pc then (bif Nat.beq pc 1 then some (.invokestatic 119, 68, 0, 20098, none, none, []) else none) else (bif Nat.beq pc 0 then some (.iload_n 1, 0, 0, 0, none, none, []) else none)))))
abbrev k_Loc_told : Nat := 53
noncomputable def tb_53 (pc : Nat) : Option am_I := bif Nat.ble 62 pc then (bif Nat.ble 75 pc then (bif Nat.ble 86 pc then (bif Nat.ble 90 pc then (bif Nat.ble 91 pc then (bif Nat.ble 93 pc then (bif Nat.beq pc 93 then some (.ireturn, 0, 0, 0, none, none, []) else none) else (bif Nat.beq pc 91 then some (.bipush (-7), 0, 0, 0, none, none, []) else none)) else (bif Nat.beq pc 90 then some (.ireturn, 0, 0, 0, none, none, []) else none)) else (bif Nat.ble 89 pc then (bif Nat.beq pc 89 then some (.iconst 0, 0, 0, 0, some [], none, []) else none) else (bif Nat.beq pc 86 then some (.goto 4, 90, 0, 0, none, some [], []) else none))) else (bif Nat.ble 79 pc then (bif Nat.ble 82 pc then (bif Nat.ble 85 pc then (bif Nat.beq pc 85 then some (.iconst 1, 0, 0, 0, none, none, []) else none) else (bif Nat.beq pc 82 then some (.ifCond .eq 7, 89, 0, 0, none, some [], []) else none)) else (bif Nat.beq pc 79 then some (.invokevirtual 135, 18, 0, 10181, none, none, []) else none)) else (bif Nat.ble 78 pc then (bif Nat.beq pc 78 then some (.iload_n 1, 0, 0, 0, none, none, []) else none) else (bif Nat.beq pc 75 then some (.getfield 10, 6, 0, 10138, none, none, []) else none)))) else (bif Nat.ble 68 pc then (bif Nat.ble 72 pc then (bif Nat.ble 73 pc then (bif Nat.ble 74 pc then (bif Nat.beq pc 74 then some (.aload_n 0, 0, 0, 0, none, none, []) else none) else (bif Nat.beq pc 73 then some (.ireturn, 0, 0, 0, none, none, []) else none)) else (bif Nat.beq pc 72 then some (.iaload, 0, 0, 0, none, none, []) else none)) else (bif Nat.ble 71 pc then (bif Nat.beq pc 71 then some (.iload_n 1, 0, 0, 0, none, none, []) else none) else (bif Nat.beq pc 68 then some (.getfield 126, 3, 7, 56, none, none, []) else none))) else (bif Nat.ble 64 pc then (bif Nat.ble 65 pc then (bif Nat.beq pc 65 then some (.getfield 10, 6, 0, 10138, none, none, []) else none) else (bif Nat.beq pc 64 then some (.aload_n 0, 0, 0, 0, none, none, []) else none)) else (bif Nat.ble 63 pc then (bif Nat.beq pc 63 then some (.ireturn, 0, 0, 0, none, none, []) else none) else (bif Nat.beq pc 62 then some (.iaload, 0, 0, 0, none, none, []) else none))))) else (bif Nat.ble 44 pc then (bif Nat.ble 53 pc then (bif Nat.ble 55 pc then (bif Nat.ble 58 pc then (bif Nat.ble 61 pc then (bif Nat.beq pc 61 then some (.iload_n 1, 0, 0, 0, none, none, []) else none) else (bif Nat.beq pc 58 then some (.getfield 132, 3, 6, 54, none, none, []) else none)) else (bif Nat.beq pc 55 then some (.getfield 10, 6, 0, 10138, none, none, []) else none)) else (bif Nat.ble 54 pc then (bif Nat.beq pc 54 then some (.aload_n 0, 0, 0, 0, none, none, []) else none) else (bif Nat.beq pc 53 then some (.ireturn, 0, 0, 0, none, none, []) else none))) else (bif Nat.ble 48 pc then (bif Nat.ble 51 pc then (bif Nat.ble 52 pc then (bif Nat.beq pc 52 then some (.iaload, 0, 0, 0, none, none, []) else none) else (bif Nat.beq pc 51 then some (.iload_n 1, 0, 0, 0, none, none, []) else none)) else (bif Nat.beq pc 48 then some (.getfield 129, 3, 5, 51, none, none, []) else none)) else (bif Nat.ble 45 pc then (bif Nat.beq pc 45 then some (.getfield 10, 6, 0, 10138, none, none, []) else none) else (bif Nat.beq pc 44 then some (.aload_n 0, 0, 0, 0, none, none, []) else none)))) else (bif Nat.ble 8 pc then (bif Nat.ble 13 pc then (bif Nat.ble 14 pc then (bif Nat.ble 15 pc then (bif Nat.beq pc 15 then some (.tableswitch 76 0 3 #[29, 39, 49, 59], 0, 0, 0, none, none, [(91, []), (44, [0, 1]), (54, [0, 1]), (64, [0, 1]), (74, [0, 1])]) else none) else (bif Nat.beq pc 14 then some (.iload_n 2, 0, 0, 0, none, none, []) else none)) else (bif Nat.beq pc 13 then some (.ireturn, 0, 0, 0, none, none, []) else none)) else (bif Nat.ble 11 pc then (bif Nat.beq pc 11 then some (.bipush (-5), 0, 0, 0, none, none, []) else none) else (bif Nat.beq pc 8 then some (.ifCond .ne 6, 14, 0, 0, none, some [0, 1, 2], []) else none))) else (bif Nat.ble 4 pc then (bif Nat.ble 5 pc then (bif Nat.beq pc 5 then some (.invokevirtual 106, 16, 0, 10177, none, none, []) else none) else (bif Nat.beq pc 4 then some (.iload_n 1, 0, 0, 0, none, none, []) else none)) else (bif Nat.ble 1 pc then (bif Nat.beq pc 1 then some (.getfield 10, 6, 0, 10138, none, none, []) else none) else (bif Nat.beq pc 0 then some (.aload_n 0, 0, 0, 0, none, none, []) else none)))))
abbrev k_Loc_lock : Nat := 54
noncomputable def tb_54 (pc : Nat) : Option am_I := bif Nat.ble 44 pc then (bif Nat.ble 66 pc then (bif Nat.ble 76 pc then (bif Nat.ble 83 pc then (bif Nat.ble 84 pc then (bif Nat.ble 85 pc then (bif Nat.beq pc 85 then some (.ireturn, 0, 0, 0, none, none, []) else none) else (bif Nat.beq pc 84 then some (.isub, 0, 0, 0, none, none, []) else none)) else (bif Nat.beq pc 83 then some (.iconst 1, 0, 0, 0, none, none, []) else none)) else (bif Nat.ble 77 pc then (bif Nat.ble 80 pc then (bif Nat.beq pc 80 then some (.getfield 67, 3, 2, 43, none, none, []) else none) else (bif Nat.beq pc 77 then some (.getfield 10, 6, 0, 10138, none, none, []) else none)) else (bif Nat.beq pc 76 then some (.aload_n 0, 0, 0, 0, none, none, []) else none))) else (bif Nat.ble 71 pc then (bif Nat.ble 72 pc then (bif Nat.ble 73 pc then (bif Nat.beq pc 73 then some (.invokevirtual 144, 24, 0, 20148, none, none, []) else none) else (bif Nat.beq pc 72 then some (.iload_n 3, 0, 0, 0, none, none, []) else none)) else (bif Nat.beq pc 71 then some (.iload_n 2, 0, 0, 0, none, none, []) else none)) else (bif Nat.ble 67 pc then (bif Nat.ble 70 pc then (bif Nat.beq pc 70 then some (.iload_n 1, 0, 0, 0, none, none, []) else none) else (bif Nat.beq pc 67 then some (.getfield 10, 6, 0, 10138, none, none, []) else none)) else (bif Nat.beq pc 66 then some (.aload_n 0, 0, 0, 0, none, none, []) else none)))) else (bif Nat.ble 52 pc then (bif Nat.ble 60 pc then (bif Nat.ble 63 pc then (bif Nat.ble 65 pc then (bif Nat.beq pc 65 then some (.ireturn, 0, 0, 0, none, none, []) else none) else (bif Nat.beq pc 63 then some (.bipush (-4), 0, 0, 0, none, none, []) else none)) else (bif Nat.beq pc 60 then some (.if_icmp .lt 6, 66, 0, 0, none, some [0, 1, 2, 3], []) else none)) else (bif Nat.ble 55 pc then (bif Nat.ble 58 pc then (bif Nat.beq pc 58 then some (.bipush 10, 0, 0, 0, none, none, []) else none) else (bif Nat.beq pc 55 then some (.getfield 67, 3, 2, 43, none, none, []) else none)) else (bif Nat.beq pc 52 then some (.getfield 10, 6, 0, 10138, none, none, []) else none))) else (bif Nat.ble 48 pc then (bif Nat.ble 50 pc then (bif Nat.ble 51 pc then (bif Nat.beq pc 51 then some (.aload_n 0, 0, 0, 0, none, none, []) else none) else (bif Nat.beq pc 50 then some (.ireturn, 0, 0, 0, none, none, []) else none)) else (bif Nat.beq pc 48 then some (.bipush (-3), 0, 0, 0, none, none, []) else none)) else (bif Nat.ble 45 pc then (bif Nat.beq pc 45 then some (.ifCond .eq 6, 51, 0, 0, none, some [0, 1, 2, 3], []) else none) else (bif Nat.beq pc 44 then some (.iand, 0, 0, 0, none, none, []) else none))))) else (bif Nat.ble 23 pc then (bif Nat.ble 34 pc then (bif Nat.ble 37 pc then (bif Nat.ble 38 pc then (bif Nat.ble 41 pc then (bif Nat.beq pc 41 then some (.getfield 70, 3, 1, 40, none, none, []) else none) else (bif Nat.beq pc 38 then some (.getfield 10, 6, 0, 10138, none, none, []) else none)) else (bif Nat.beq pc 37 then some (.aload_n 0, 0, 0, 0, none, none, []) else none)) else (bif Nat.ble 35 pc then (bif Nat.ble 36 pc then (bif Nat.beq pc 36 then some (.ior, 0, 0, 0, none, none, []) else none) else (bif Nat.beq pc 35 then some (.iload_n 3, 0, 0, 0, none, none, []) else none)) else (bif Nat.beq pc 34 then some (.ishl, 0, 0, 0, none, none, []) else none))) else (bif Nat.ble 31 pc then (bif Nat.ble 32 pc then (bif Nat.ble 33 pc then (bif Nat.beq pc 33 then some (.iload_n 1, 0, 0, 0, none, none, []) else none) else (bif Nat.beq pc 32 then some (.iconst 1, 0, 0, 0, none, none, []) else none)) else (bif Nat.beq pc 31 then some (.ireturn, 0, 0, 0, none, none, []) else none)) else (bif Nat.ble 26 pc then (bif Nat.ble 29 pc then (bif Nat.beq pc 29 then some (.bipush (-2), 0, 0, 0, none, none, []) else none) else (bif Nat.beq pc 26 then some (.ifCond .ne 6, 32, 0, 0, some [], some [0, 1, 2, 3], []) else none)) else (bif Nat.beq pc 23 then some (.invokevirtual 141, 20, 0, 20144, none, none, []) else none)))) else (bif Nat.ble 11 pc then (bif Nat.ble 18 pc then (bif Nat.ble 19 pc then (bif Nat.ble 22 pc then (bif Nat.beq pc 22 then some (.iload_n 3, 0, 0, 0, none, none, []) else none) else (bif Nat.beq pc 19 then some (.getfield 10, 6, 0, 10138, none, none, []) else none)) else (bif Nat.beq pc 18 then some (.aload_n 0, 0, 0, 0, none, none, []) else none)) else (bif Nat.ble 12 pc then (bif Nat.ble 15 pc then (bif Nat.beq pc 15 then some (.ifCond .eq 14, 29, 0, 0, none, some [], []) else none) else (bif Nat.beq pc 12 then some (.invokestatic 138, 69, 0, 20141, none, none, []) else none)) else (bif Nat.beq pc 11 then some (.iload_n 2, 0, 0, 0, none, none, []) else none))) else (bif Nat.ble 4 pc then (bif Nat.ble 5 pc then (bif Nat.ble 8 pc then (bif Nat.beq pc 8 then some (.ifCond .eq 21, 29, 0, 0, none, some [], []) else none) else (bif Nat.beq pc 5 then some (.invokevirtual 106, 16, 0, 10177, none, none, []) else none)) else (bif Nat.beq pc 4 then some (.iload_n 1, 0, 0, 0, none, none, []) else none)) else (bif Nat.ble 1 pc then (bif Nat.beq pc 1 then some (.getfield 10, 6, 0, 10138, none, none, []) else none) else (bif Nat.beq pc 0 then some (.aload_n 0, 0, 0, 0, none, none, []) else none)))))
abbrev k_Loc_lockTold : Nat := 55
noncomputable def tb_55 (pc : Nat) : Option am_I := bif Nat.ble 72 pc then (bif Nat.ble 89 pc then (bif Nat.ble 101 pc then (bif Nat.ble 106 pc then (bif Nat.ble 107 pc then (bif Nat.ble 109 pc then (bif Nat.beq pc 109 then some (.ireturn, 0, 0, 0, none, none, []) else none) else (bif Nat.beq pc 107 then some (.bipush (-7), 0, 0, 0, none, none, []) else none)) else (bif Nat.beq pc 106 then some (.ireturn, 0, 0, 0, none, none, []) else none)) else (bif Nat.ble 102 pc then (bif Nat.ble 105 pc then (bif Nat.beq pc 105 then some (.iconst 0, 0, 0, 0, some [], none, []) else none) else (bif Nat.beq pc 102 then some (.goto 4, 106, 0, 0, none, some [], []) else none)) else (bif Nat.beq pc 101 then some (.iconst 1, 0, 0, 0, none, none, []) else none))) else (bif Nat.ble 94 pc then (bif Nat.ble 95 pc then (bif Nat.ble 98 pc then (bif Nat.beq pc 98 then some (.ifCond .eq 7, 105, 0, 0, none, some [], []) else none) else (bif Nat.beq pc 95 then some (.invokevirtual 163, 19, 0, 10196, none, none, []) else none)) else (bif Nat.beq pc 94 then some (.iload_n 1, 0, 0, 0, none, none, []) else none)) else (bif Nat.ble 90 pc then (bif Nat.ble 91 pc then (bif Nat.beq pc 91 then some (.getfield 10, 6, 0, 10138, none, none, []) else none) else (bif Nat.beq pc 90 then some (.aload_n 0, 0, 0, 0, none, none, []) else none)) else (bif Nat.beq pc 89 then some (.ireturn, 0, 0, 0, none, none, []) else none)))) else (bif Nat.ble 79 pc then (bif Nat.ble 86 pc then (bif Nat.ble 87 pc then (bif Nat.ble 88 pc then (bif Nat.beq pc 88 then some (.iand, 0, 0, 0, none, none, []) else none) else (bif Nat.beq pc 87 then some (.iconst 1, 0, 0, 0, none, none, []) else none)) else (bif Nat.beq pc 86 then some (.ishr, 0, 0, 0, none, none, []) else none)) else (bif Nat.ble 82 pc then (bif Nat.ble 85 pc then (bif Nat.beq pc 85 then some (.iload_n 1, 0, 0, 0, none, none, []) else none) else (bif Nat.beq pc 82 then some (.getfield 73, 3, 3, 45, none, none, []) else none)) else (bif Nat.beq pc 79 then some (.getfield 10, 6, 0, 10138, none, none, []) else none))) else (bif Nat.ble 76 pc then (bif Nat.ble 77 pc then (bif Nat.ble 78 pc then (bif Nat.beq pc 78 then some (.aload_n 0, 0, 0, 0, none, none, []) else none) else (bif Nat.beq pc 77 then some (.ireturn, 0, 0, 0, none, none, []) else none)) else (bif Nat.beq pc 76 then some (.iaload, 0, 0, 0, none, none, []) else none)) else (bif Nat.ble 75 pc then (bif Nat.beq pc 75 then some (.iload_n 1, 0, 0, 0, none, none, []) else none) else (bif Nat.beq pc 72 then some (.getfield 157, 3, 10, 65, none, none, []) else none))))) else (bif Nat.ble 52 pc then (bif Nat.ble 62 pc then (bif Nat.ble 67 pc then (bif Nat.ble 68 pc then (bif Nat.ble 69 pc then (bif Nat.beq pc 69 then some (.getfield 10, 6, 0, 10138, none, none, []) else none) else (bif Nat.beq pc 68 then some (.aload_n 0, 0, 0, 0, none, none, []) else none)) else (bif Nat.beq pc 67 then some (.ireturn, 0, 0, 0, none, none, []) else none)) else (bif Nat.ble 65 pc then (bif Nat.ble 66 pc then (bif Nat.beq pc 66 then some (.iaload, 0, 0, 0, none, none, []) else none) else (bif Nat.beq pc 65 then some (.iload_n 1, 0, 0, 0, none, none, []) else none)) else (bif Nat.beq pc 62 then some (.getfield 150, 3, 9, 62, none, none, []) else none))) else (bif Nat.ble 57 pc then (bif Nat.ble 58 pc then (bif Nat.ble 59 pc then (bif Nat.beq pc 59 then some (.getfield 10, 6, 0, 10138, none, none, []) else none) else (bif Nat.beq pc 58 then some (.aload_n 0, 0, 0, 0, none, none, []) else none)) else (bif Nat.beq pc 57 then some (.ireturn, 0, 0, 0, none, none, []) else none)) else (bif Nat.ble 55 pc then (bif Nat.ble 56 pc then (bif Nat.beq pc 56 then some (.iaload, 0, 0, 0, none, none, []) else none) else (bif Nat.beq pc 55 then some (.iload_n 1, 0, 0, 0, none, none, []) else none)) else (bif Nat.beq pc 52 then some (.getfield 147, 3, 8, 59, none, none, []) else none)))) else (bif Nat.ble 11 pc then (bif Nat.ble 15 pc then (bif Nat.ble 48 pc then (bif Nat.ble 49 pc then (bif Nat.beq pc 49 then some (.getfield 10, 6, 0, 10138, none, none, []) else none) else (bif Nat.beq pc 48 then some (.aload_n 0, 0, 0, 0, none, none, []) else none)) else (bif Nat.beq pc 15 then some (.tableswitch 92 0 4 #[33, 43, 53, 63, 75], 0, 0, 0, none, none, [(107, []), (48, [0, 1]), (58, [0, 1]), (68, [0, 1]), (78, [0, 1]), (90, [0, 1])]) else none)) else (bif Nat.ble 13 pc then (bif Nat.ble 14 pc then (bif Nat.beq pc 14 then some (.iload_n 2, 0, 0, 0, none, none, []) else none) else (bif Nat.beq pc 13 then some (.ireturn, 0, 0, 0, none, none, []) else none)) else (bif Nat.beq pc 11 then some (.bipush (-5), 0, 0, 0, none, none, []) else none))) else (bif Nat.ble 4 pc then (bif Nat.ble 5 pc then (bif Nat.ble 8 pc then (bif Nat.beq pc 8 then some (.ifCond .ne 6, 14, 0, 0, none, some [0, 1, 2], []) else none) else (bif Nat.beq pc 5 then some (.invokevirtual 112, 17, 0, 10192, none, none, []) else none)) else (bif Nat.beq pc 4 then some (.iload_n 1, 0, 0, 0, none, none, []) else none)) else (bif Nat.ble 1 pc then (bif Nat.beq pc 1 then some (.getfield 10, 6, 0, 10138, none, none, []) else none) else (bif Nat.beq pc 0 then some (.aload_n 0, 0, 0, 0, none, none, []) else none)))))
abbrev k_Loc_holds : Nat := 56
noncomputable def tb_56 (pc : Nat) : Option am_I := bif Nat.ble 12 pc then (bif Nat.ble 19 pc then (bif Nat.ble 22 pc then (bif Nat.ble 24 pc then (bif Nat.beq pc 24 then some (.ireturn, 0, 0, 0, none, none, []) else none) else (bif Nat.beq pc 22 then some (.bipush (-5), 0, 0, 0, some [], none, []) else none)) else (bif Nat.beq pc 19 then some (.goto 5, 24, 0, 0, none, some [], []) else none)) else (bif Nat.ble 15 pc then (bif Nat.ble 16 pc then (bif Nat.beq pc 16 then some (.invokevirtual 166, 28, 0, 10204, none, none, []) else none) else (bif Nat.beq pc 15 then some (.iload_n 1, 0, 0, 0, none, none, []) else none)) else (bif Nat.beq pc 12 then some (.getfield 10, 6, 0, 10138, none, none, []) else none))) else (bif Nat.ble 5 pc then (bif Nat.ble 8 pc then (bif Nat.ble 11 pc then (bif Nat.beq pc 11 then some (.aload_n 0, 0, 0, 0, none, none, []) else none) else (bif Nat.beq pc 8 then some (.ifCond .eq 14, 22, 0, 0, none, some [], []) else none)) else (bif Nat.beq pc 5 then some (.invokevirtual 106, 16, 0, 10177, none, none, []) else none)) else (bif Nat.ble 1 pc then (bif Nat.ble 4 pc then (bif Nat.beq pc 4 then some (.iload_n 1, 0, 0, 0, none, none, []) else none) else (bif Nat.beq pc 1 then some (.getfield 10, 6, 0, 10138, none, none, []) else none)) else (bif Nat.beq pc 0 then some (.aload_n 0, 0, 0, 0, none, none, []) else none)))
abbrev k_Loc_free : Nat := 57
noncomputable def tb_57 (pc : Nat) : Option am_I := bif Nat.ble 11 pc then (bif Nat.ble 15 pc then (bif Nat.ble 18 pc then (bif Nat.ble 21 pc then (bif Nat.beq pc 21 then some (.ireturn, 0, 0, 0, none, none, []) else none) else (bif Nat.beq pc 18 then some (.invokevirtual 170, 30, 0, 10217, none, none, []) else none)) else (bif Nat.beq pc 15 then some (.getfield 73, 3, 3, 45, none, none, []) else none)) else (bif Nat.ble 12 pc then (bif Nat.beq pc 12 then some (.getfield 10, 6, 0, 10138, none, none, []) else none) else (bif Nat.beq pc 11 then some (.aload_n 0, 0, 0, 0, none, none, []) else none))) else (bif Nat.ble 4 pc then (bif Nat.ble 5 pc then (bif Nat.ble 8 pc then (bif Nat.beq pc 8 then some (.getfield 70, 3, 1, 40, none, none, []) else none) else (bif Nat.beq pc 5 then some (.getfield 10, 6, 0, 10138, none, none, []) else none)) else (bif Nat.beq pc 4 then some (.aload_n 0, 0, 0, 0, none, none, []) else none)) else (bif Nat.ble 1 pc then (bif Nat.beq pc 1 then some (.getfield 10, 6, 0, 10138, none, none, []) else none) else (bif Nat.beq pc 0 then some (.aload_n 0, 0, 0, 0, none, none, []) else none)))
abbrev k_Loc_go : Nat := 58
noncomputable def tb_58 (pc : Nat) : Option am_I := bif Nat.ble 42 pc then (bif Nat.ble 57 pc then (bif Nat.ble 68 pc then (bif Nat.ble 74 pc then (bif Nat.ble 77 pc then (bif Nat.ble 78 pc then (bif Nat.beq pc 78 then some (.ireturn, 0, 0, 0, none, none, []) else none) else (bif Nat.beq pc 77 then some (.isub, 0, 0, 0, none, none, []) else none)) else (bif Nat.beq pc 74 then some (.invokestatic 178, 84, 0, 10230, none, none, []) else none)) else (bif Nat.ble 71 pc then (bif Nat.beq pc 71 then some (.getfield 70, 3, 1, 40, none, none, []) else none) else (bif Nat.beq pc 68 then some (.getfield 10, 6, 0, 10138, none, none, []) else none))) else (bif Nat.ble 61 pc then (bif Nat.ble 64 pc then (bif Nat.ble 67 pc then (bif Nat.beq pc 67 then some (.aload_n 0, 0, 0, 0, none, none, []) else none) else (bif Nat.beq pc 64 then some (.getfield 64, 3, 0, 37, none, none, []) else none)) else (bif Nat.beq pc 61 then some (.getfield 10, 6, 0, 10138, none, none, []) else none)) else (bif Nat.ble 60 pc then (bif Nat.beq pc 60 then some (.aload_n 0, 0, 0, 0, none, none, []) else none) else (bif Nat.beq pc 57 then some (.putfield 70, 3, 1, 40, none, none, []) else none)))) else (bif Nat.ble 50 pc then (bif Nat.ble 54 pc then (bif Nat.ble 55 pc then (bif Nat.ble 56 pc then (bif Nat.beq pc 56 then some (.ior, 0, 0, 0, none, none, []) else none) else (bif Nat.beq pc 55 then some (.ishl, 0, 0, 0, none, none, []) else none)) else (bif Nat.beq pc 54 then some (.iload_n 1, 0, 0, 0, none, none, []) else none)) else (bif Nat.ble 53 pc then (bif Nat.beq pc 53 then some (.iconst 1, 0, 0, 0, none, none, []) else none) else (bif Nat.beq pc 50 then some (.getfield 70, 3, 1, 40, none, none, []) else none))) else (bif Nat.ble 45 pc then (bif Nat.ble 46 pc then (bif Nat.ble 49 pc then (bif Nat.beq pc 49 then some (.dup, 0, 0, 0, none, none, []) else none) else (bif Nat.beq pc 46 then some (.getfield 10, 6, 0, 10138, none, none, []) else none)) else (bif Nat.beq pc 45 then some (.aload_n 0, 0, 0, 0, none, none, []) else none)) else (bif Nat.ble 44 pc then (bif Nat.beq pc 44 then some (.ireturn, 0, 0, 0, none, none, []) else none) else (bif Nat.beq pc 42 then some (.bipush (-3), 0, 0, 0, none, none, []) else none))))) else (bif Nat.ble 18 pc then (bif Nat.ble 29 pc then (bif Nat.ble 35 pc then (bif Nat.ble 36 pc then (bif Nat.ble 39 pc then (bif Nat.beq pc 39 then some (.ifCond .ne 6, 45, 0, 0, none, some [0, 1], []) else none) else (bif Nat.beq pc 36 then some (.invokestatic 174, 64, 0, 10229, none, none, []) else none)) else (bif Nat.beq pc 35 then some (.iload_n 1, 0, 0, 0, none, none, []) else none)) else (bif Nat.ble 32 pc then (bif Nat.beq pc 32 then some (.invokevirtual 170, 30, 0, 10217, none, none, []) else none) else (bif Nat.beq pc 29 then some (.getfield 73, 3, 3, 45, none, none, []) else none))) else (bif Nat.ble 22 pc then (bif Nat.ble 25 pc then (bif Nat.ble 26 pc then (bif Nat.beq pc 26 then some (.getfield 10, 6, 0, 10138, none, none, []) else none) else (bif Nat.beq pc 25 then some (.aload_n 0, 0, 0, 0, none, none, []) else none)) else (bif Nat.beq pc 22 then some (.getfield 70, 3, 1, 40, none, none, []) else none)) else (bif Nat.ble 19 pc then (bif Nat.beq pc 19 then some (.getfield 10, 6, 0, 10138, none, none, []) else none) else (bif Nat.beq pc 18 then some (.aload_n 0, 0, 0, 0, none, none, []) else none)))) else (bif Nat.ble 8 pc then (bif Nat.ble 13 pc then (bif Nat.ble 14 pc then (bif Nat.ble 15 pc then (bif Nat.beq pc 15 then some (.getfield 10, 6, 0, 10138, none, none, []) else none) else (bif Nat.beq pc 14 then some (.aload_n 0, 0, 0, 0, none, none, []) else none)) else (bif Nat.beq pc 13 then some (.ireturn, 0, 0, 0, none, none, []) else none)) else (bif Nat.ble 11 pc then (bif Nat.beq pc 11 then some (.bipush (-5), 0, 0, 0, none, none, []) else none) else (bif Nat.beq pc 8 then some (.ifCond .ne 6, 14, 0, 0, none, some [0, 1], []) else none))) else (bif Nat.ble 4 pc then (bif Nat.ble 5 pc then (bif Nat.beq pc 5 then some (.invokevirtual 106, 16, 0, 10177, none, none, []) else none) else (bif Nat.beq pc 4 then some (.iload_n 1, 0, 0, 0, none, none, []) else none)) else (bif Nat.ble 1 pc then (bif Nat.beq pc 1 then some (.getfield 10, 6, 0, 10138, none, none, []) else none) else (bif Nat.beq pc 0 then some (.aload_n 0, 0, 0, 0, none, none, []) else none)))))
abbrev k_Loc_saw : Nat := 59
noncomputable def tb_59 (pc : Nat) : Option am_I := bif Nat.ble 29 pc then (bif Nat.ble 43 pc then (bif Nat.ble 51 pc then (bif Nat.ble 55 pc then (bif Nat.ble 58 pc then (bif Nat.beq pc 58 then some (.ireturn, 0, 0, 0, none, none, []) else none) else (bif Nat.beq pc 55 then some (.invokevirtual 183, 7, 0, 20000, none, none, []) else none)) else (bif Nat.ble 54 pc then (bif Nat.beq pc 54 then some (.iload_n 1, 0, 0, 0, none, none, []) else none) else (bif Nat.beq pc 51 then some (.getfield 79, 1, 2, 10065, none, none, []) else none))) else (bif Nat.ble 47 pc then (bif Nat.ble 48 pc then (bif Nat.beq pc 48 then some (.getfield 24, 6, 2, 10140, none, none, []) else none) else (bif Nat.beq pc 47 then some (.aload_n 0, 0, 0, 0, none, none, []) else none)) else (bif Nat.ble 44 pc then (bif Nat.beq pc 44 then some (.getfield 24, 6, 2, 10140, none, none, []) else none) else (bif Nat.beq pc 43 then some (.aload_n 0, 0, 0, 0, none, none, []) else none)))) else (bif Nat.ble 37 pc then (bif Nat.ble 39 pc then (bif Nat.ble 40 pc then (bif Nat.beq pc 40 then some (.putfield 73, 3, 3, 45, none, none, []) else none) else (bif Nat.beq pc 39 then some (.ior, 0, 0, 0, none, none, []) else none)) else (bif Nat.ble 38 pc then (bif Nat.beq pc 38 then some (.ishl, 0, 0, 0, none, none, []) else none) else (bif Nat.beq pc 37 then some (.iload_n 1, 0, 0, 0, none, none, []) else none))) else (bif Nat.ble 33 pc then (bif Nat.ble 36 pc then (bif Nat.beq pc 36 then some (.iconst 1, 0, 0, 0, none, none, []) else none) else (bif Nat.beq pc 33 then some (.getfield 73, 3, 3, 45, none, none, []) else none)) else (bif Nat.ble 32 pc then (bif Nat.beq pc 32 then some (.dup, 0, 0, 0, none, none, []) else none) else (bif Nat.beq pc 29 then some (.getfield 10, 6, 0, 10138, none, none, []) else none))))) else (bif Nat.ble 14 pc then (bif Nat.ble 22 pc then (bif Nat.ble 27 pc then (bif Nat.ble 28 pc then (bif Nat.beq pc 28 then some (.aload_n 0, 0, 0, 0, none, none, []) else none) else (bif Nat.beq pc 27 then some (.ireturn, 0, 0, 0, none, none, []) else none)) else (bif Nat.ble 25 pc then (bif Nat.beq pc 25 then some (.bipush (-3), 0, 0, 0, none, none, []) else none) else (bif Nat.beq pc 22 then some (.ifCond .ne 6, 28, 0, 0, none, some [0, 1], []) else none))) else (bif Nat.ble 18 pc then (bif Nat.ble 19 pc then (bif Nat.beq pc 19 then some (.invokevirtual 163, 19, 0, 10196, none, none, []) else none) else (bif Nat.beq pc 18 then some (.iload_n 1, 0, 0, 0, none, none, []) else none)) else (bif Nat.ble 15 pc then (bif Nat.beq pc 15 then some (.getfield 10, 6, 0, 10138, none, none, []) else none) else (bif Nat.beq pc 14 then some (.aload_n 0, 0, 0, 0, none, none, []) else none)))) else (bif Nat.ble 5 pc then (bif Nat.ble 11 pc then (bif Nat.ble 13 pc then (bif Nat.beq pc 13 then some (.ireturn, 0, 0, 0, none, none, []) else none) else (bif Nat.beq pc 11 then some (.bipush (-5), 0, 0, 0, none, none, []) else none)) else (bif Nat.ble 8 pc then (bif Nat.beq pc 8 then some (.ifCond .ne 6, 14, 0, 0, none, some [0, 1], []) else none) else (bif Nat.beq pc 5 then some (.invokevirtual 112, 17, 0, 10192, none, none, []) else none))) else (bif Nat.ble 1 pc then (bif Nat.ble 4 pc then (bif Nat.beq pc 4 then some (.iload_n 1, 0, 0, 0, none, none, []) else none) else (bif Nat.beq pc 1 then some (.getfield 10, 6, 0, 10138, none, none, []) else none)) else (bif Nat.beq pc 0 then some (.aload_n 0, 0, 0, 0, none, none, []) else none))))
abbrev k_Loc_waits : Nat := 60
noncomputable def tb_60 (pc : Nat) : Option am_I := bif Nat.ble 12 pc then (bif Nat.ble 19 pc then (bif Nat.ble 22 pc then (bif Nat.ble 24 pc then (bif Nat.beq pc 24 then some (.ireturn, 0, 0, 0, none, none, []) else none) else (bif Nat.beq pc 22 then some (.bipush (-5), 0, 0, 0, some [], none, []) else none)) else (bif Nat.beq pc 19 then some (.goto 5, 24, 0, 0, none, some [], []) else none)) else (bif Nat.ble 15 pc then (bif Nat.ble 16 pc then (bif Nat.beq pc 16 then some (.invokevirtual 186, 29, 0, 20025, none, none, []) else none) else (bif Nat.beq pc 15 then some (.iload_n 1, 0, 0, 0, none, none, []) else none)) else (bif Nat.beq pc 12 then some (.getfield 10, 6, 0, 10138, none, none, []) else none))) else (bif Nat.ble 5 pc then (bif Nat.ble 8 pc then (bif Nat.ble 11 pc then (bif Nat.beq pc 11 then some (.aload_n 0, 0, 0, 0, none, none, []) else none) else (bif Nat.beq pc 8 then some (.ifCond .eq 14, 22, 0, 0, none, some [], []) else none)) else (bif Nat.beq pc 5 then some (.invokevirtual 106, 16, 0, 10177, none, none, []) else none)) else (bif Nat.ble 1 pc then (bif Nat.ble 4 pc then (bif Nat.beq pc 4 then some (.iload_n 1, 0, 0, 0, none, none, []) else none) else (bif Nat.beq pc 1 then some (.getfield 10, 6, 0, 10138, none, none, []) else none)) else (bif Nat.beq pc 0 then some (.aload_n 0, 0, 0, 0, none, none, []) else none)))
abbrev k_Loc_never : Nat := 61
noncomputable def tb_61 (pc : Nat) : Option am_I := bif Nat.ble 12 pc then (bif Nat.ble 21 pc then (bif Nat.ble 23 pc then (bif Nat.ble 24 pc then (bif Nat.beq pc 24 then some (.ireturn, 0, 0, 0, none, none, []) else none) else (bif Nat.beq pc 23 then some (.iand, 0, 0, 0, none, none, []) else none)) else (bif Nat.ble 22 pc then (bif Nat.beq pc 22 then some (.ixor, 0, 0, 0, none, none, []) else none) else (bif Nat.beq pc 21 then some (.iconst (-1), 0, 0, 0, none, none, []) else none))) else (bif Nat.ble 15 pc then (bif Nat.ble 18 pc then (bif Nat.beq pc 18 then some (.invokevirtual 193, 31, 0, 20035, none, none, []) else none) else (bif Nat.beq pc 15 then some (.getfield 73, 3, 3, 45, none, none, []) else none)) else (bif Nat.beq pc 12 then some (.getfield 10, 6, 0, 10138, none, none, []) else none))) else (bif Nat.ble 7 pc then (bif Nat.ble 8 pc then (bif Nat.ble 11 pc then (bif Nat.beq pc 11 then some (.aload_n 0, 0, 0, 0, none, none, []) else none) else (bif Nat.beq pc 8 then some (.getfield 10, 6, 0, 10138, none, none, []) else none)) else (bif Nat.beq pc 7 then some (.aload_n 0, 0, 0, 0, none, none, []) else none)) else (bif Nat.ble 1 pc then (bif Nat.ble 4 pc then (bif Nat.beq pc 4 then some (.invokevirtual 189, 21, 0, 20034, none, none, []) else none) else (bif Nat.beq pc 1 then some (.getfield 10, 6, 0, 10138, none, none, []) else none)) else (bif Nat.beq pc 0 then some (.aload_n 0, 0, 0, 0, none, none, []) else none)))
abbrev k_Loc_first : Nat := 62
noncomputable def tb_62 (pc : Nat) : Option am_I := bif Nat.ble 29 pc then (bif Nat.ble 46 pc then (bif Nat.ble 54 pc then (bif Nat.ble 58 pc then (bif Nat.ble 61 pc then (bif Nat.beq pc 61 then some (.ireturn, 0, 0, 0, none, none, []) else none) else (bif Nat.beq pc 58 then some (.invokevirtual 202, 14, 0, 20058, some [], none, []) else none)) else (bif Nat.ble 57 pc then (bif Nat.beq pc 57 then some (.iload_n 1, 0, 0, 0, none, none, []) else none) else (bif Nat.beq pc 54 then some (.getfield 31, 6, 3, 10141, none, none, []) else none))) else (bif Nat.ble 50 pc then (bif Nat.ble 53 pc then (bif Nat.beq pc 53 then some (.aload_n 0, 0, 0, 0, none, none, []) else none) else (bif Nat.beq pc 50 then some (.goto 11, 61, 0, 0, none, some [], []) else none)) else (bif Nat.ble 47 pc then (bif Nat.beq pc 47 then some (.invokevirtual 199, 13, 0, 20047, none, none, []) else none) else (bif Nat.beq pc 46 then some (.iload_n 1, 0, 0, 0, none, none, []) else none)))) else (bif Nat.ble 38 pc then (bif Nat.ble 42 pc then (bif Nat.ble 43 pc then (bif Nat.beq pc 43 then some (.getfield 31, 6, 3, 10141, none, none, []) else none) else (bif Nat.beq pc 42 then some (.aload_n 0, 0, 0, 0, none, none, []) else none)) else (bif Nat.ble 39 pc then (bif Nat.beq pc 39 then some (.ifCond .ne 14, 53, 0, 0, none, some [0, 1], []) else none) else (bif Nat.beq pc 38 then some (.iload_n 2, 0, 0, 0, none, none, []) else none))) else (bif Nat.ble 35 pc then (bif Nat.ble 37 pc then (bif Nat.beq pc 37 then some (.ireturn, 0, 0, 0, none, none, []) else none) else (bif Nat.beq pc 35 then some (.bipush (-3), 0, 0, 0, none, none, []) else none)) else (bif Nat.ble 32 pc then (bif Nat.beq pc 32 then some (.ifCond .eq 6, 38, 0, 0, none, some [0, 1, 2], []) else none) else (bif Nat.beq pc 29 then some (.invokevirtual 135, 18, 0, 10181, none, none, []) else none))))) else (bif Nat.ble 14 pc then (bif Nat.ble 23 pc then (bif Nat.ble 25 pc then (bif Nat.ble 28 pc then (bif Nat.beq pc 28 then some (.iload_n 1, 0, 0, 0, none, none, []) else none) else (bif Nat.beq pc 25 then some (.getfield 10, 6, 0, 10138, none, none, []) else none)) else (bif Nat.ble 24 pc then (bif Nat.beq pc 24 then some (.aload_n 0, 0, 0, 0, none, none, []) else none) else (bif Nat.beq pc 23 then some (.ireturn, 0, 0, 0, none, none, []) else none))) else (bif Nat.ble 18 pc then (bif Nat.ble 21 pc then (bif Nat.beq pc 21 then some (.bipush (-7), 0, 0, 0, none, none, []) else none) else (bif Nat.beq pc 18 then some (.ifCond .ne 6, 24, 0, 0, none, some [0, 1, 2], []) else none)) else (bif Nat.ble 15 pc then (bif Nat.beq pc 15 then some (.invokestatic 196, 66, 0, 20044, none, none, []) else none) else (bif Nat.beq pc 14 then some (.iload_n 2, 0, 0, 0, none, none, []) else none)))) else (bif Nat.ble 5 pc then (bif Nat.ble 11 pc then (bif Nat.ble 13 pc then (bif Nat.beq pc 13 then some (.ireturn, 0, 0, 0, none, none, []) else none) else (bif Nat.beq pc 11 then some (.bipush (-5), 0, 0, 0, none, none, []) else none)) else (bif Nat.ble 8 pc then (bif Nat.beq pc 8 then some (.ifCond .ne 6, 14, 0, 0, none, some [0, 1, 2], []) else none) else (bif Nat.beq pc 5 then some (.invokevirtual 106, 16, 0, 10177, none, none, []) else none))) else (bif Nat.ble 1 pc then (bif Nat.ble 4 pc then (bif Nat.beq pc 4 then some (.iload_n 1, 0, 0, 0, none, none, []) else none) else (bif Nat.beq pc 1 then some (.getfield 10, 6, 0, 10138, none, none, []) else none)) else (bif Nat.beq pc 0 then some (.aload_n 0, 0, 0, 0, none, none, []) else none))))
abbrev k_Loc_sawFor : Nat := 63
noncomputable def tb_63 (pc : Nat) : Option am_I := bif Nat.ble 18 pc then (bif Nat.ble 25 pc then (bif Nat.ble 29 pc then (bif Nat.ble 32 pc then (bif Nat.ble 34 pc then (bif Nat.beq pc 34 then some (.ireturn, 0, 0, 0, none, none, []) else none) else (bif Nat.beq pc 32 then some (.bipush (-7), 0, 0, 0, some [], none, []) else none)) else (bif Nat.beq pc 29 then some (.goto 5, 34, 0, 0, none, some [], []) else none)) else (bif Nat.ble 26 pc then (bif Nat.beq pc 26 then some (.invokevirtual 229, 70, 0, 20068, none, none, []) else none) else (bif Nat.beq pc 25 then some (.iload_n 2, 0, 0, 0, none, none, []) else none))) else (bif Nat.ble 22 pc then (bif Nat.ble 23 pc then (bif Nat.ble 24 pc then (bif Nat.beq pc 24 then some (.ishl, 0, 0, 0, none, none, []) else none) else (bif Nat.beq pc 23 then some (.iload_n 1, 0, 0, 0, none, none, []) else none)) else (bif Nat.beq pc 22 then some (.iconst 1, 0, 0, 0, none, none, []) else none)) else (bif Nat.ble 21 pc then (bif Nat.beq pc 21 then some (.aload_n 0, 0, 0, 0, none, none, []) else none) else (bif Nat.beq pc 18 then some (.ifCond .eq 14, 32, 0, 0, none, some [], []) else none)))) else (bif Nat.ble 8 pc then (bif Nat.ble 13 pc then (bif Nat.ble 14 pc then (bif Nat.ble 15 pc then (bif Nat.beq pc 15 then some (.invokestatic 196, 66, 0, 20044, none, none, []) else none) else (bif Nat.beq pc 14 then some (.iload_n 2, 0, 0, 0, none, none, []) else none)) else (bif Nat.beq pc 13 then some (.ireturn, 0, 0, 0, none, none, []) else none)) else (bif Nat.ble 11 pc then (bif Nat.beq pc 11 then some (.bipush (-5), 0, 0, 0, none, none, []) else none) else (bif Nat.beq pc 8 then some (.ifCond .ne 6, 14, 0, 0, none, some [0, 1, 2], []) else none))) else (bif Nat.ble 4 pc then (bif Nat.ble 5 pc then (bif Nat.beq pc 5 then some (.invokevirtual 106, 16, 0, 10177, none, none, []) else none) else (bif Nat.beq pc 4 then some (.iload_n 1, 0, 0, 0, none, none, []) else none)) else (bif Nat.ble 1 pc then (bif Nat.beq pc 1 then some (.getfield 10, 6, 0, 10138, none, none, []) else none) else (bif Nat.beq pc 0 then some (.aload_n 0, 0, 0, 0, none, none, []) else none))))
abbrev k_Loc_has : Nat := 64
noncomputable def tb_64 (pc : Nat) : Option am_I := bif Nat.ble 5 pc then (bif Nat.ble 9 pc then (bif Nat.ble 12 pc then (bif Nat.ble 13 pc then (bif Nat.beq pc 13 then some (.ireturn, 0, 0, 0, none, none, []) else none) else (bif Nat.beq pc 12 then some (.iconst 0, 0, 0, 0, some [], none, []) else none)) else (bif Nat.beq pc 9 then some (.goto 4, 13, 0, 0, none, some [], []) else none)) else (bif Nat.ble 8 pc then (bif Nat.beq pc 8 then some (.iconst 1, 0, 0, 0, none, none, []) else none) else (bif Nat.beq pc 5 then some (.ifCond .eq 7, 12, 0, 0, none, some [], []) else none))) else (bif Nat.ble 2 pc then (bif Nat.ble 3 pc then (bif Nat.ble 4 pc then (bif Nat.beq pc 4 then some (.iand, 0, 0, 0, none, none, []) else none) else (bif Nat.beq pc 3 then some (.iconst 1, 0, 0, 0, none, none, []) else none)) else (bif Nat.beq pc 2 then some (.ishr, 0, 0, 0, none, none, []) else none)) else (bif Nat.ble 1 pc then (bif Nat.beq pc 1 then some (.iload_n 1, 0, 0, 0, none, none, []) else none) else (bif Nat.beq pc 0 then some (.iload_n 0, 0, 0, 0, none, none, []) else none)))
abbrev k_Loc_isByte : Nat := 65
noncomputable def tb_65 (pc : Nat) : Option am_I := bif Nat.ble 8 pc then (bif Nat.ble 12 pc then (bif Nat.ble 15 pc then (bif Nat.ble 16 pc then (bif Nat.beq pc 16 then some (.ireturn, 0, 0, 0, none, none, []) else none) else (bif Nat.beq pc 15 then some (.iconst 0, 0, 0, 0, some [], none, []) else none)) else (bif Nat.beq pc 12 then some (.goto 4, 16, 0, 0, none, some [], []) else none)) else (bif Nat.ble 11 pc then (bif Nat.beq pc 11 then some (.iconst 1, 0, 0, 0, none, none, []) else none) else (bif Nat.beq pc 8 then some (.if_icmp .gt 7, 15, 0, 0, none, some [], []) else none))) else (bif Nat.ble 4 pc then (bif Nat.ble 5 pc then (bif Nat.beq pc 5 then some (.sipush 255, 0, 0, 0, none, none, []) else none) else (bif Nat.beq pc 4 then some (.iload_n 0, 0, 0, 0, none, none, []) else none)) else (bif Nat.ble 1 pc then (bif Nat.beq pc 1 then some (.ifCond .lt 14, 15, 0, 0, none, some [], []) else none) else (bif Nat.beq pc 0 then some (.iload_n 0, 0, 0, 0, none, none, []) else none)))
abbrev k_Loc_isEither : Nat := 66
noncomputable def tb_66 (pc : Nat) : Option am_I := bif Nat.ble 6 pc then (bif Nat.ble 10 pc then (bif Nat.ble 13 pc then (bif Nat.ble 14 pc then (bif Nat.beq pc 14 then some (.ireturn, 0, 0, 0, none, none, []) else none) else (bif Nat.beq pc 13 then some (.iconst 0, 0, 0, 0, some [], none, []) else none)) else (bif Nat.beq pc 10 then some (.goto 4, 14, 0, 0, none, some [], []) else none)) else (bif Nat.ble 9 pc then (bif Nat.beq pc 9 then some (.iconst 1, 0, 0, 0, none, none, []) else none) else (bif Nat.beq pc 6 then some (.if_icmp .ne 7, 13, 0, 0, some [], some [], []) else none))) else (bif Nat.ble 4 pc then (bif Nat.ble 5 pc then (bif Nat.beq pc 5 then some (.iconst 1, 0, 0, 0, none, none, []) else none) else (bif Nat.beq pc 4 then some (.iload_n 0, 0, 0, 0, none, none, []) else none)) else (bif Nat.ble 1 pc then (bif Nat.beq pc 1 then some (.ifCond .eq 8, 9, 0, 0, none, some [], []) else none) else (bif Nat.beq pc 0 then some (.iload_n 0, 0, 0, 0, none, none, []) else none)))
abbrev k_Loc_isHour : Nat := 67
noncomputable def tb_67 (pc : Nat) : Option am_I := bif Nat.ble 7 pc then (bif Nat.ble 11 pc then (bif Nat.ble 14 pc then (bif Nat.ble 15 pc then (bif Nat.beq pc 15 then some (.ireturn, 0, 0, 0, none, none, []) else none) else (bif Nat.beq pc 14 then some (.iconst 0, 0, 0, 0, some [], none, []) else none)) else (bif Nat.beq pc 11 then some (.goto 4, 15, 0, 0, none, some [], []) else none)) else (bif Nat.ble 10 pc then (bif Nat.beq pc 10 then some (.iconst 1, 0, 0, 0, none, none, []) else none) else (bif Nat.beq pc 7 then some (.if_icmp .ge 7, 14, 0, 0, none, some [], []) else none))) else (bif Nat.ble 4 pc then (bif Nat.ble 5 pc then (bif Nat.beq pc 5 then some (.bipush 24, 0, 0, 0, none, none, []) else none) else (bif Nat.beq pc 4 then some (.iload_n 0, 0, 0, 0, none, none, []) else none)) else (bif Nat.ble 1 pc then (bif Nat.beq pc 1 then some (.ifCond .lt 13, 14, 0, 0, none, some [], []) else none) else (bif Nat.beq pc 0 then some (.iload_n 0, 0, 0, 0, none, none, []) else none)))
abbrev k_Loc_isKind : Nat := 68
noncomputable def tb_68 (pc : Nat) : Option am_I := bif Nat.ble 7 pc then (bif Nat.ble 11 pc then (bif Nat.ble 14 pc then (bif Nat.ble 15 pc then (bif Nat.beq pc 15 then some (.ireturn, 0, 0, 0, none, none, []) else none) else (bif Nat.beq pc 14 then some (.iconst 0, 0, 0, 0, some [], none, []) else none)) else (bif Nat.beq pc 11 then some (.goto 4, 15, 0, 0, none, some [], []) else none)) else (bif Nat.ble 10 pc then (bif Nat.beq pc 10 then some (.iconst 1, 0, 0, 0, none, none, []) else none) else (bif Nat.beq pc 7 then some (.if_icmp .ge 7, 14, 0, 0, none, some [], []) else none))) else (bif Nat.ble 4 pc then (bif Nat.ble 5 pc then (bif Nat.beq pc 5 then some (.bipush 6, 0, 0, 0, none, none, []) else none) else (bif Nat.beq pc 4 then some (.iload_n 0, 0, 0, 0, none, none, []) else none)) else (bif Nat.ble 1 pc then (bif Nat.beq pc 1 then some (.ifCond .lt 13, 14, 0, 0, none, some [], []) else none) else (bif Nat.beq pc 0 then some (.iload_n 0, 0, 0, 0, none, none, []) else none)))
abbrev k_Loc_isSort : Nat := 69
noncomputable def tb_69 (pc : Nat) : Option am_I := bif Nat.ble 6 pc then (bif Nat.ble 10 pc then (bif Nat.ble 13 pc then (bif Nat.ble 14 pc then (bif Nat.beq pc 14 then some (.ireturn, 0, 0, 0, none, none, []) else none) else (bif Nat.beq pc 13 then some (.iconst 0, 0, 0, 0, some [], none, []) else none)) else (bif Nat.beq pc 10 then some (.goto 4, 14, 0, 0, none, some [], []) else none)) else (bif Nat.ble 9 pc then (bif Nat.beq pc 9 then some (.iconst 1, 0, 0, 0, none, none, []) else none) else (bif Nat.beq pc 6 then some (.if_icmp .ge 7, 13, 0, 0, none, some [], []) else none))) else (bif Nat.ble 4 pc then (bif Nat.ble 5 pc then (bif Nat.beq pc 5 then some (.iconst 3, 0, 0, 0, none, none, []) else none) else (bif Nat.beq pc 4 then some (.iload_n 0, 0, 0, 0, none, none, []) else none)) else (bif Nat.ble 1 pc then (bif Nat.beq pc 1 then some (.ifCond .lt 12, 13, 0, 0, none, some [], []) else none) else (bif Nat.beq pc 0 then some (.iload_n 0, 0, 0, 0, none, none, []) else none)))
abbrev k_Loc_cheapestSaws : Nat := 70
noncomputable def tb_70 (pc : Nat) : Option am_I := bif Nat.ble 80 pc then (bif Nat.ble 121 pc then (bif Nat.ble 142 pc then (bif Nat.ble 154 pc then (bif Nat.ble 160 pc then (bif Nat.ble 163 pc then (bif Nat.ble 165 pc then (bif Nat.beq pc 165 then some (.ireturn, 0, 0, 0, none, none, []) else none) else (bif Nat.beq pc 163 then some (.iload 5, 0, 0, 0, some [], none, []) else none)) else (bif Nat.beq pc 160 then some (.goto 5, 165, 0, 0, none, some [], []) else none)) else (bif Nat.ble 155 pc then (bif Nat.ble 158 pc then (bif Nat.beq pc 158 then some (.iload 4, 0, 0, 0, none, none, []) else none) else (bif Nat.beq pc 155 then some (.ifCond .ne 8, 163, 0, 0, none, some [5], []) else none)) else (bif Nat.beq pc 154 then some (.iload_n 2, 0, 0, 0, none, none, []) else none))) else (bif Nat.ble 146 pc then (bif Nat.ble 148 pc then (bif Nat.ble 151 pc then (bif Nat.beq pc 151 then some (.goto (-73), 78, 0, 0, none, some [0, 1, 2, 3, 4, 5, 6], []) else none) else (bif Nat.beq pc 148 then some (.iinc 6 1, 0, 0, 0, none, none, []) else none)) else (bif Nat.beq pc 146 then some (.istore 5, 0, 0, 0, some [0, 1, 2, 3, 4, 5, 6], none, []) else none)) else (bif Nat.ble 144 pc then (bif Nat.beq pc 144 then some (.iload 7, 0, 0, 0, none, none, []) else none) else (bif Nat.beq pc 142 then some (.istore 4, 0, 0, 0, none, none, []) else none)))) else (bif Nat.ble 131 pc then (bif Nat.ble 136 pc then (bif Nat.ble 137 pc then (bif Nat.ble 140 pc then (bif Nat.beq pc 140 then some (.iload 6, 0, 0, 0, none, none, []) else none) else (bif Nat.beq pc 137 then some (.ifCond .ne 11, 148, 0, 0, none, some [0, 1, 2, 3, 4, 5, 6], []) else none)) else (bif Nat.beq pc 136 then some (.iand, 0, 0, 0, none, none, []) else none)) else (bif Nat.ble 134 pc then (bif Nat.ble 135 pc then (bif Nat.beq pc 135 then some (.ixor, 0, 0, 0, none, none, []) else none) else (bif Nat.beq pc 134 then some (.iconst (-1), 0, 0, 0, none, none, []) else none)) else (bif Nat.beq pc 131 then some (.invokevirtual 193, 31, 0, 20035, none, none, []) else none))) else (bif Nat.ble 125 pc then (bif Nat.ble 128 pc then (bif Nat.ble 130 pc then (bif Nat.beq pc 130 then some (.ior, 0, 0, 0, none, none, []) else none) else (bif Nat.beq pc 128 then some (.iload 6, 0, 0, 0, none, none, []) else none)) else (bif Nat.beq pc 125 then some (.getfield 73, 3, 3, 45, none, none, []) else none)) else (bif Nat.ble 122 pc then (bif Nat.beq pc 122 then some (.getfield 10, 6, 0, 10138, none, none, []) else none) else (bif Nat.beq pc 121 then some (.aload_n 0, 0, 0, 0, none, none, []) else none))))) else (bif Nat.ble 97 pc then (bif Nat.ble 109 pc then (bif Nat.ble 116 pc then (bif Nat.ble 117 pc then (bif Nat.ble 118 pc then (bif Nat.beq pc 118 then some (.getfield 10, 6, 0, 10138, none, none, []) else none) else (bif Nat.beq pc 117 then some (.aload_n 0, 0, 0, 0, none, none, []) else none)) else (bif Nat.beq pc 116 then some (.iload_n 1, 0, 0, 0, none, none, []) else none)) else (bif Nat.ble 111 pc then (bif Nat.ble 113 pc then (bif Nat.beq pc 113 then some (.if_icmp .ge 35, 148, 0, 0, some [0, 1, 2, 3, 4, 5, 6, 7], some [0, 1, 2, 3, 4, 5, 6], []) else none) else (bif Nat.beq pc 111 then some (.iload 5, 0, 0, 0, none, none, []) else none)) else (bif Nat.beq pc 109 then some (.iload 7, 0, 0, 0, none, none, []) else none))) else (bif Nat.ble 102 pc then (bif Nat.ble 104 pc then (bif Nat.ble 106 pc then (bif Nat.beq pc 106 then some (.ifCond .lt 10, 116, 0, 0, none, some [0, 1, 2, 3, 4, 5, 6, 7], []) else none) else (bif Nat.beq pc 104 then some (.iload 4, 0, 0, 0, none, none, []) else none)) else (bif Nat.beq pc 102 then some (.istore 7, 0, 0, 0, none, none, []) else none)) else (bif Nat.ble 99 pc then (bif Nat.beq pc 99 then some (.invokevirtual 322, 71, 0, 20072, none, none, []) else none) else (bif Nat.beq pc 97 then some (.iload 6, 0, 0, 0, none, none, []) else none)))) else (bif Nat.ble 88 pc then (bif Nat.ble 90 pc then (bif Nat.ble 93 pc then (bif Nat.ble 96 pc then (bif Nat.beq pc 96 then some (.aload_n 0, 0, 0, 0, none, none, []) else none) else (bif Nat.beq pc 93 then some (.goto 55, 148, 0, 0, none, some [0, 1, 2, 3, 4, 5, 6], []) else none)) else (bif Nat.beq pc 90 then some (.ifCond .eq 6, 96, 0, 0, none, some [0, 1, 2, 3, 4, 5, 6], []) else none)) else (bif Nat.ble 89 pc then (bif Nat.beq pc 89 then some (.iand, 0, 0, 0, none, none, []) else none) else (bif Nat.beq pc 88 then some (.ixor, 0, 0, 0, none, none, []) else none))) else (bif Nat.ble 84 pc then (bif Nat.ble 86 pc then (bif Nat.ble 87 pc then (bif Nat.beq pc 87 then some (.iconst (-1), 0, 0, 0, none, none, []) else none) else (bif Nat.beq pc 86 then some (.iload_n 3, 0, 0, 0, none, none, []) else none)) else (bif Nat.beq pc 84 then some (.iload 6, 0, 0, 0, none, none, []) else none)) else (bif Nat.ble 81 pc then (bif Nat.beq pc 81 then some (.if_icmp .gt 73, 154, 0, 0, none, some [2, 4, 5], []) else none) else (bif Nat.beq pc 80 then some (.iload_n 3, 0, 0, 0, none, none, []) else none)))))) else (bif Nat.ble 41 pc then (bif Nat.ble 61 pc then (bif Nat.ble 70 pc then (bif Nat.ble 75 pc then (bif Nat.ble 76 pc then (bif Nat.ble 78 pc then (bif Nat.beq pc 78 then some (.iload 6, 0, 0, 0, none, none, []) else none) else (bif Nat.beq pc 76 then some (.istore 6, 0, 0, 0, some [0, 1, 2, 3, 4, 5, 6], none, []) else none)) else (bif Nat.beq pc 75 then some (.iconst 0, 0, 0, 0, none, none, []) else none)) else (bif Nat.ble 72 pc then (bif Nat.ble 73 pc then (bif Nat.beq pc 73 then some (.istore 5, 0, 0, 0, none, none, []) else none) else (bif Nat.beq pc 72 then some (.iconst (-1), 0, 0, 0, none, none, []) else none)) else (bif Nat.beq pc 70 then some (.istore 4, 0, 0, 0, none, none, []) else none))) else (bif Nat.ble 63 pc then (bif Nat.ble 66 pc then (bif Nat.ble 69 pc then (bif Nat.beq pc 69 then some (.iconst (-1), 0, 0, 0, none, none, []) else none) else (bif Nat.beq pc 66 then some (.goto (-61), 5, 0, 0, none, some [0, 1, 2, 3, 4], []) else none)) else (bif Nat.beq pc 63 then some (.iinc 4 1, 0, 0, 0, none, none, []) else none)) else (bif Nat.ble 62 pc then (bif Nat.beq pc 62 then some (.istore_n 3, 0, 0, 0, none, none, []) else none) else (bif Nat.beq pc 61 then some (.ior, 0, 0, 0, none, none, []) else none)))) else (bif Nat.ble 53 pc then (bif Nat.ble 56 pc then (bif Nat.ble 57 pc then (bif Nat.ble 60 pc then (bif Nat.beq pc 60 then some (.iconst 0, 0, 0, 0, some [0, 1, 2, 4], none, []) else none) else (bif Nat.beq pc 57 then some (.goto 4, 61, 0, 0, none, some [0, 1, 2, 4], []) else none)) else (bif Nat.beq pc 56 then some (.ishl, 0, 0, 0, none, none, []) else none)) else (bif Nat.ble 54 pc then (bif Nat.beq pc 54 then some (.iload 4, 0, 0, 0, none, none, []) else none) else (bif Nat.beq pc 53 then some (.iconst 1, 0, 0, 0, none, none, []) else none))) else (bif Nat.ble 45 pc then (bif Nat.ble 47 pc then (bif Nat.ble 50 pc then (bif Nat.beq pc 50 then some (.ifCond .eq 10, 60, 0, 0, none, some [0, 1, 2, 4], []) else none) else (bif Nat.beq pc 47 then some (.invokevirtual 163, 19, 0, 10196, none, none, []) else none)) else (bif Nat.beq pc 45 then some (.iload 4, 0, 0, 0, none, none, []) else none)) else (bif Nat.ble 42 pc then (bif Nat.beq pc 42 then some (.getfield 10, 6, 0, 10138, none, none, []) else none) else (bif Nat.beq pc 41 then some (.aload_n 0, 0, 0, 0, none, none, []) else none))))) else (bif Nat.ble 18 pc then (bif Nat.ble 28 pc then (bif Nat.ble 36 pc then (bif Nat.ble 39 pc then (bif Nat.ble 40 pc then (bif Nat.beq pc 40 then some (.iload_n 3, 0, 0, 0, none, none, []) else none) else (bif Nat.beq pc 39 then some (.iastore, 0, 0, 0, none, none, []) else none)) else (bif Nat.beq pc 36 then some (.invokevirtual 183, 7, 0, 20000, none, none, []) else none)) else (bif Nat.ble 31 pc then (bif Nat.ble 34 pc then (bif Nat.beq pc 34 then some (.iload 4, 0, 0, 0, none, none, []) else none) else (bif Nat.beq pc 31 then some (.getfield 79, 1, 2, 10065, none, none, []) else none)) else (bif Nat.beq pc 28 then some (.getfield 24, 6, 2, 10140, none, none, []) else none))) else (bif Nat.ble 23 pc then (bif Nat.ble 24 pc then (bif Nat.ble 27 pc then (bif Nat.beq pc 27 then some (.aload_n 0, 0, 0, 0, none, none, []) else none) else (bif Nat.beq pc 24 then some (.getfield 24, 6, 2, 10140, none, none, []) else none)) else (bif Nat.beq pc 23 then some (.aload_n 0, 0, 0, 0, none, none, []) else none)) else (bif Nat.ble 21 pc then (bif Nat.beq pc 21 then some (.iload 4, 0, 0, 0, none, none, []) else none) else (bif Nat.beq pc 18 then some (.getfield 52, 6, 7, 10145, none, none, []) else none)))) else (bif Nat.ble 7 pc then (bif Nat.ble 11 pc then (bif Nat.ble 14 pc then (bif Nat.ble 17 pc then (bif Nat.beq pc 17 then some (.aload_n 0, 0, 0, 0, none, none, []) else none) else (bif Nat.beq pc 14 then some (.if_icmp .ge 55, 69, 0, 0, none, some [0, 1, 2, 3], []) else none)) else (bif Nat.beq pc 11 then some (.getfield 67, 3, 2, 43, none, none, []) else none)) else (bif Nat.ble 8 pc then (bif Nat.beq pc 8 then some (.getfield 10, 6, 0, 10138, none, none, []) else none) else (bif Nat.beq pc 7 then some (.aload_n 0, 0, 0, 0, none, none, []) else none))) else (bif Nat.ble 2 pc then (bif Nat.ble 3 pc then (bif Nat.ble 5 pc then (bif Nat.beq pc 5 then some (.iload 4, 0, 0, 0, none, none, []) else none) else (bif Nat.beq pc 3 then some (.istore 4, 0, 0, 0, some [0, 1, 2, 3, 4], none, []) else none)) else (bif Nat.beq pc 2 then some (.iconst 0, 0, 0, 0, none, none, []) else none)) else (bif Nat.ble 1 pc then (bif Nat.beq pc 1 then some (.istore_n 3, 0, 0, 0, none, none, []) else none) else (bif Nat.beq pc 0 then some (.iconst 0, 0, 0, 0, none, none, []) else none))))))
abbrev k_Loc_priceOf : Nat := 71
noncomputable def tb_71 (pc : Nat) : Option am_I := bif Nat.ble 21 pc then (bif Nat.ble 33 pc then (bif Nat.ble 36 pc then (bif Nat.ble 42 pc then (bif Nat.ble 43 pc then (bif Nat.beq pc 43 then some (.ireturn, 0, 0, 0, none, none, []) else none) else (bif Nat.beq pc 42 then some (.iload_n 2, 0, 0, 0, none, none, []) else none)) else (bif Nat.ble 39 pc then (bif Nat.beq pc 39 then some (.goto (-35), 4, 0, 0, none, some [0, 1, 2, 3], []) else none) else (bif Nat.beq pc 36 then some (.iinc 3 1, 0, 0, 0, none, none, []) else none))) else (bif Nat.ble 34 pc then (bif Nat.ble 35 pc then (bif Nat.beq pc 35 then some (.istore_n 2, 0, 0, 0, none, none, []) else none) else (bif Nat.beq pc 34 then some (.iadd, 0, 0, 0, none, none, []) else none)) else (bif Nat.beq pc 33 then some (.iconst 0, 0, 0, 0, some [0, 1, 3], none, []) else none))) else (bif Nat.ble 28 pc then (bif Nat.ble 29 pc then (bif Nat.ble 30 pc then (bif Nat.beq pc 30 then some (.goto 4, 34, 0, 0, none, some [0, 1, 3], []) else none) else (bif Nat.beq pc 29 then some (.iaload, 0, 0, 0, none, none, []) else none)) else (bif Nat.beq pc 28 then some (.iload_n 3, 0, 0, 0, none, none, []) else none)) else (bif Nat.ble 24 pc then (bif Nat.ble 25 pc then (bif Nat.beq pc 25 then some (.getfield 52, 6, 7, 10145, none, none, []) else none) else (bif Nat.beq pc 24 then some (.aload_n 0, 0, 0, 0, none, none, []) else none)) else (bif Nat.beq pc 21 then some (.ifCond .eq 12, 33, 0, 0, none, some [0, 1, 3], []) else none)))) else (bif Nat.ble 6 pc then (bif Nat.ble 15 pc then (bif Nat.ble 17 pc then (bif Nat.ble 18 pc then (bif Nat.beq pc 18 then some (.invokestatic 174, 64, 0, 10229, none, none, []) else none) else (bif Nat.beq pc 17 then some (.iload_n 3, 0, 0, 0, none, none, []) else none)) else (bif Nat.ble 16 pc then (bif Nat.beq pc 16 then some (.iload_n 1, 0, 0, 0, none, none, []) else none) else (bif Nat.beq pc 15 then some (.iload_n 2, 0, 0, 0, none, none, []) else none))) else (bif Nat.ble 9 pc then (bif Nat.ble 12 pc then (bif Nat.beq pc 12 then some (.if_icmp .ge 30, 42, 0, 0, none, some [2], []) else none) else (bif Nat.beq pc 9 then some (.getfield 67, 3, 2, 43, none, none, []) else none)) else (bif Nat.beq pc 6 then some (.getfield 10, 6, 0, 10138, none, none, []) else none))) else (bif Nat.ble 3 pc then (bif Nat.ble 4 pc then (bif Nat.ble 5 pc then (bif Nat.beq pc 5 then some (.aload_n 0, 0, 0, 0, none, none, []) else none) else (bif Nat.beq pc 4 then some (.iload_n 3, 0, 0, 0, none, none, []) else none)) else (bif Nat.beq pc 3 then some (.istore_n 3, 0, 0, 0, some [0, 1, 2, 3], none, []) else none)) else (bif Nat.ble 1 pc then (bif Nat.ble 2 pc then (bif Nat.beq pc 2 then some (.iconst 0, 0, 0, 0, none, none, []) else none) else (bif Nat.beq pc 1 then some (.istore_n 2, 0, 0, 0, none, none, []) else none)) else (bif Nat.beq pc 0 then some (.iconst 0, 0, 0, 0, none, none, []) else none))))
abbrev k_Jasb_init_d00df : Nat := 72
noncomputable def tb_72 (pc : Nat) : Option am_I := bif Nat.ble 18 pc then (bif Nat.ble 30 pc then (bif Nat.ble 34 pc then (bif Nat.ble 35 pc then (bif Nat.ble 38 pc then (bif Nat.beq pc 38 then some (.return_, 0, 0, 0, none, none, []) else none) else (bif Nat.beq pc 35 then some (.putfield 22, 7, 1, 20180, some [], none, []) else none)) else (bif Nat.beq pc 34 then some (.iconst 1, 0, 0, 0, none, none, []) else none)) else (bif Nat.ble 33 pc then (bif Nat.beq pc 33 then some (.aload_n 0, 0, 0, 0, none, none, []) else none) else (bif Nat.beq pc 30 then some (.putfield 15, 7, 0, 20179, none, none, []) else none))) else (bif Nat.ble 22 pc then (bif Nat.ble 25 pc then (bif Nat.ble 26 pc then (bif Nat.beq pc 26 then some (.iload_n 1, 0, 0, 0, none, none, []) else none) else (bif Nat.beq pc 25 then some (.aload_n 0, 0, 0, 0, none, none, []) else none)) else (bif Nat.beq pc 22 then some (.goto 16, 38, 0, 0, none, some [], []) else none)) else (bif Nat.ble 19 pc then (bif Nat.beq pc 19 then some (.putfield 22, 7, 1, 20180, none, none, []) else none) else (bif Nat.beq pc 18 then some (.iconst 0, 0, 0, 0, none, none, []) else none)))) else (bif Nat.ble 10 pc then (bif Nat.ble 12 pc then (bif Nat.ble 14 pc then (bif Nat.ble 17 pc then (bif Nat.beq pc 17 then some (.aload_n 0, 0, 0, 0, none, none, []) else none) else (bif Nat.beq pc 14 then some (.putfield 15, 7, 0, 20179, none, none, []) else none)) else (bif Nat.beq pc 12 then some (.newarray .byte, 0, 0, 0, none, none, []) else none)) else (bif Nat.ble 11 pc then (bif Nat.beq pc 11 then some (.iload_n 1, 0, 0, 0, none, none, []) else none) else (bif Nat.beq pc 10 then some (.aload_n 0, 0, 0, 0, none, none, []) else none))) else (bif Nat.ble 4 pc then (bif Nat.ble 7 pc then (bif Nat.beq pc 7 then some (.ifCond .eq 18, 25, 0, 0, none, some [0, 1], []) else none) else (bif Nat.beq pc 4 then some (.getstatic 18, 1, 0, 20171, none, none, []) else none)) else (bif Nat.ble 1 pc then (bif Nat.beq pc 1 then some (.invokespecial 3, 9999, 0, 20170, none, none, []) else none) else (bif Nat.beq pc 0 then some (.aload_n 0, 0, 0, 0, none, none, []) else none))))
abbrev k_Jasb_length_8abf5 : Nat := 73
noncomputable def tb_73 (pc : Nat) : Option am_I := bif Nat.ble 1 pc then (bif Nat.ble 4 pc then (bif Nat.beq pc 4 then some (.ireturn, 0, 0, 0, none, none, []) else none) else (bif Nat.beq pc 1 then some (.getfield 79, 7, 3, 20182, none, none, []) else none)) else (bif Nat.beq pc 0 then some (.aload_n 0, 0, 0, 0, none, none, []) else none)
abbrev k_Jasb_ensureCapacityInternal_d00df : Nat := 74
noncomputable def tb_74 (pc : Nat) : Option am_I := bif Nat.ble 17 pc then (bif Nat.ble 27 pc then (bif Nat.ble 32 pc then (bif Nat.ble 35 pc then (bif Nat.ble 38 pc then (bif Nat.beq pc 38 then some (.return_, 0, 0, 0, none, none, []) else none) else (bif Nat.beq pc 35 then some (.putfield 15, 7, 0, 20179, some [], none, []) else none)) else (bif Nat.beq pc 32 then some (.invokestatic 108, 104, 0, 20221, none, none, []) else none)) else (bif Nat.ble 28 pc then (bif Nat.ble 31 pc then (bif Nat.beq pc 31 then some (.ishl, 0, 0, 0, none, none, []) else none) else (bif Nat.beq pc 28 then some (.getfield 22, 7, 1, 20180, none, none, []) else none)) else (bif Nat.beq pc 27 then some (.aload_n 0, 0, 0, 0, none, none, []) else none))) else (bif Nat.ble 22 pc then (bif Nat.ble 23 pc then (bif Nat.ble 24 pc then (bif Nat.beq pc 24 then some (.invokevirtual 104, 75, 0, 20208, none, none, []) else none) else (bif Nat.beq pc 23 then some (.iload_n 1, 0, 0, 0, none, none, []) else none)) else (bif Nat.beq pc 22 then some (.aload_n 0, 0, 0, 0, none, none, []) else none)) else (bif Nat.ble 18 pc then (bif Nat.ble 19 pc then (bif Nat.beq pc 19 then some (.getfield 15, 7, 0, 20179, none, none, []) else none) else (bif Nat.beq pc 18 then some (.aload_n 0, 0, 0, 0, none, none, []) else none)) else (bif Nat.beq pc 17 then some (.aload_n 0, 0, 0, 0, none, none, []) else none)))) else (bif Nat.ble 9 pc then (bif Nat.ble 12 pc then (bif Nat.ble 13 pc then (bif Nat.ble 14 pc then (bif Nat.beq pc 14 then some (.ifCond .le 24, 38, 0, 0, none, some [], []) else none) else (bif Nat.beq pc 13 then some (.isub, 0, 0, 0, none, none, []) else none)) else (bif Nat.beq pc 12 then some (.iload_n 2, 0, 0, 0, none, none, []) else none)) else (bif Nat.ble 10 pc then (bif Nat.ble 11 pc then (bif Nat.beq pc 11 then some (.iload_n 1, 0, 0, 0, none, none, []) else none) else (bif Nat.beq pc 10 then some (.istore_n 2, 0, 0, 0, none, none, []) else none)) else (bif Nat.beq pc 9 then some (.ishr, 0, 0, 0, none, none, []) else none))) else (bif Nat.ble 4 pc then (bif Nat.ble 5 pc then (bif Nat.ble 6 pc then (bif Nat.beq pc 6 then some (.getfield 22, 7, 1, 20180, none, none, []) else none) else (bif Nat.beq pc 5 then some (.aload_n 0, 0, 0, 0, none, none, []) else none)) else (bif Nat.beq pc 4 then some (.arraylength, 0, 0, 0, none, none, []) else none)) else (bif Nat.ble 1 pc then (bif Nat.beq pc 1 then some (.getfield 15, 7, 0, 20179, none, none, []) else none) else (bif Nat.beq pc 0 then some (.aload_n 0, 0, 0, 0, none, none, []) else none))))
abbrev k_Jasb_newCapacity_0f7a4 : Nat := 75
noncomputable def tb_75 (pc : Nat) : Option am_I := bif Nat.ble 22 pc then (bif Nat.ble 36 pc then (bif Nat.ble 53 pc then (bif Nat.ble 57 pc then (bif Nat.ble 58 pc then (bif Nat.beq pc 58 then some (.ireturn, 0, 0, 0, none, none, []) else none) else (bif Nat.beq pc 57 then some (.ishr, 0, 0, 0, none, none, []) else none)) else (bif Nat.ble 54 pc then (bif Nat.beq pc 54 then some (.getfield 22, 7, 1, 20180, none, none, []) else none) else (bif Nat.beq pc 53 then some (.aload_n 0, 0, 0, 0, none, none, []) else none))) else (bif Nat.ble 44 pc then (bif Nat.ble 51 pc then (bif Nat.beq pc 51 then some (.iload 5, 0, 0, 0, none, none, []) else none) else (bif Nat.beq pc 44 then some (.dup, 0, 0, 0, none, none, []) else none)) else (bif Nat.ble 38 pc then (bif Nat.beq pc 38 then some (.if_icmp .ne 13, 51, 0, 0, none, some [0, 5], []) else none) else (bif Nat.beq pc 36 then some (.ldc 39, 2147483647, 0, 20220, none, none, []) else none)))) else (bif Nat.ble 28 pc then (bif Nat.ble 32 pc then (bif Nat.ble 34 pc then (bif Nat.beq pc 34 then some (.iload 5, 0, 0, 0, none, none, []) else none) else (bif Nat.beq pc 32 then some (.istore 5, 0, 0, 0, none, none, []) else none)) else (bif Nat.ble 29 pc then (bif Nat.beq pc 29 then some (.invokestatic 114, 108, 0, 20212, none, none, []) else none) else (bif Nat.beq pc 28 then some (.iadd, 0, 0, 0, none, none, []) else none))) else (bif Nat.ble 24 pc then (bif Nat.ble 27 pc then (bif Nat.beq pc 27 then some (.ishl, 0, 0, 0, none, none, []) else none) else (bif Nat.beq pc 24 then some (.getfield 22, 7, 1, 20180, none, none, []) else none)) else (bif Nat.ble 23 pc then (bif Nat.beq pc 23 then some (.aload_n 0, 0, 0, 0, none, none, []) else none) else (bif Nat.beq pc 22 then some (.iconst 2, 0, 0, 0, none, none, []) else none))))) else (bif Nat.ble 12 pc then (bif Nat.ble 16 pc then (bif Nat.ble 19 pc then (bif Nat.ble 21 pc then (bif Nat.beq pc 21 then some (.iload_n 2, 0, 0, 0, none, none, []) else none) else (bif Nat.beq pc 19 then some (.iload 4, 0, 0, 0, none, none, []) else none)) else (bif Nat.ble 18 pc then (bif Nat.beq pc 18 then some (.iload_n 2, 0, 0, 0, none, none, []) else none) else (bif Nat.beq pc 16 then some (.istore 4, 0, 0, 0, none, none, []) else none))) else (bif Nat.ble 14 pc then (bif Nat.ble 15 pc then (bif Nat.beq pc 15 then some (.isub, 0, 0, 0, none, none, []) else none) else (bif Nat.beq pc 14 then some (.iload_n 2, 0, 0, 0, none, none, []) else none)) else (bif Nat.ble 13 pc then (bif Nat.beq pc 13 then some (.iload_n 3, 0, 0, 0, none, none, []) else none) else (bif Nat.beq pc 12 then some (.istore_n 3, 0, 0, 0, none, none, []) else none)))) else (bif Nat.ble 6 pc then (bif Nat.ble 8 pc then (bif Nat.ble 11 pc then (bif Nat.beq pc 11 then some (.ishl, 0, 0, 0, none, none, []) else none) else (bif Nat.beq pc 8 then some (.getfield 22, 7, 1, 20180, none, none, []) else none)) else (bif Nat.ble 7 pc then (bif Nat.beq pc 7 then some (.aload_n 0, 0, 0, 0, none, none, []) else none) else (bif Nat.beq pc 6 then some (.iload_n 1, 0, 0, 0, none, none, []) else none))) else (bif Nat.ble 4 pc then (bif Nat.ble 5 pc then (bif Nat.beq pc 5 then some (.istore_n 2, 0, 0, 0, none, none, []) else none) else (bif Nat.beq pc 4 then some (.arraylength, 0, 0, 0, none, none, []) else none)) else (bif Nat.ble 1 pc then (bif Nat.beq pc 1 then some (.getfield 15, 7, 0, 20179, none, none, []) else none) else (bif Nat.beq pc 0 then some (.aload_n 0, 0, 0, 0, none, none, []) else none)))))
abbrev k_Jasb_append_cf1ce : Nat := 76
noncomputable def tb_76 (pc : Nat) : Option am_I := bif Nat.ble 24 pc then (bif Nat.ble 34 pc then (bif Nat.ble 39 pc then (bif Nat.ble 43 pc then (bif Nat.ble 44 pc then (bif Nat.beq pc 44 then some (.areturn, 0, 0, 0, none, none, []) else none) else (bif Nat.beq pc 43 then some (.aload_n 0, 0, 0, 0, none, none, []) else none)) else (bif Nat.ble 40 pc then (bif Nat.beq pc 40 then some (.putfield 79, 7, 3, 20182, none, none, []) else none) else (bif Nat.beq pc 39 then some (.iadd, 0, 0, 0, none, none, []) else none))) else (bif Nat.ble 35 pc then (bif Nat.ble 38 pc then (bif Nat.beq pc 38 then some (.iload_n 2, 0, 0, 0, none, none, []) else none) else (bif Nat.beq pc 35 then some (.getfield 79, 7, 3, 20182, none, none, []) else none)) else (bif Nat.beq pc 34 then some (.dup, 0, 0, 0, none, none, []) else none))) else (bif Nat.ble 29 pc then (bif Nat.ble 30 pc then (bif Nat.ble 33 pc then (bif Nat.beq pc 33 then some (.aload_n 0, 0, 0, 0, none, none, []) else none) else (bif Nat.beq pc 30 then some (.invokevirtual 208, 81, 0, 30007, none, none, []) else none)) else (bif Nat.beq pc 29 then some (.aload_n 1, 0, 0, 0, none, none, []) else none)) else (bif Nat.ble 25 pc then (bif Nat.ble 26 pc then (bif Nat.beq pc 26 then some (.getfield 79, 7, 3, 20182, none, none, []) else none) else (bif Nat.beq pc 25 then some (.aload_n 0, 0, 0, 0, none, none, []) else none)) else (bif Nat.beq pc 24 then some (.aload_n 0, 0, 0, 0, none, none, []) else none)))) else (bif Nat.ble 13 pc then (bif Nat.ble 16 pc then (bif Nat.ble 20 pc then (bif Nat.ble 21 pc then (bif Nat.beq pc 21 then some (.invokevirtual 100, 74, 0, 20204, none, none, []) else none) else (bif Nat.beq pc 20 then some (.iadd, 0, 0, 0, none, none, []) else none)) else (bif Nat.ble 19 pc then (bif Nat.beq pc 19 then some (.iload_n 2, 0, 0, 0, none, none, []) else none) else (bif Nat.beq pc 16 then some (.getfield 79, 7, 3, 20182, none, none, []) else none))) else (bif Nat.ble 14 pc then (bif Nat.ble 15 pc then (bif Nat.beq pc 15 then some (.aload_n 0, 0, 0, 0, none, none, []) else none) else (bif Nat.beq pc 14 then some (.aload_n 0, 0, 0, 0, none, none, []) else none)) else (bif Nat.beq pc 13 then some (.istore_n 2, 0, 0, 0, none, none, []) else none))) else (bif Nat.ble 8 pc then (bif Nat.ble 9 pc then (bif Nat.ble 10 pc then (bif Nat.beq pc 10 then some (.invokevirtual 32, 87, 0, 30006, none, none, []) else none) else (bif Nat.beq pc 9 then some (.aload_n 1, 0, 0, 0, none, none, []) else none)) else (bif Nat.beq pc 8 then some (.areturn, 0, 0, 0, none, none, []) else none)) else (bif Nat.ble 1 pc then (bif Nat.ble 4 pc then (bif Nat.beq pc 4 then some (.aload_n 0, 0, 0, 0, none, none, []) else none) else (bif Nat.beq pc 1 then some (.ifnonnull 8, 9, 0, 0, none, some [0, 1], []) else none)) else (bif Nat.beq pc 0 then some (.aload_n 1, 0, 0, 0, none, none, []) else none))))
abbrev k_Jasb_append_c97b9 : Nat := 77
noncomputable def tb_77 (pc : Nat) : Option am_I := bif Nat.ble 26 pc then (bif Nat.ble 40 pc then (bif Nat.ble 49 pc then (bif Nat.ble 53 pc then (bif Nat.ble 54 pc then (bif Nat.beq pc 54 then some (.areturn, 0, 0, 0, none, none, []) else none) else (bif Nat.beq pc 53 then some (.aload_n 0, 0, 0, 0, none, none, []) else none)) else (bif Nat.ble 50 pc then (bif Nat.beq pc 50 then some (.putfield 79, 7, 3, 20182, none, none, []) else none) else (bif Nat.beq pc 49 then some (.iload_n 3, 0, 0, 0, none, none, []) else none))) else (bif Nat.ble 47 pc then (bif Nat.ble 48 pc then (bif Nat.beq pc 48 then some (.aload_n 0, 0, 0, 0, none, none, []) else none) else (bif Nat.beq pc 47 then some (.pop, 0, 0, 0, some [0, 3], none, []) else none)) else (bif Nat.ble 41 pc then (bif Nat.beq pc 41 then some (.getfield 15, 7, 0, 20179, none, none, []) else none) else (bif Nat.beq pc 40 then some (.aload_n 0, 0, 0, 0, none, none, []) else none)))) else (bif Nat.ble 34 pc then (bif Nat.ble 38 pc then (bif Nat.ble 39 pc then (bif Nat.beq pc 39 then some (.iload_n 3, 0, 0, 0, none, none, []) else none) else (bif Nat.beq pc 38 then some (.iload_n 2, 0, 0, 0, none, none, []) else none)) else (bif Nat.ble 37 pc then (bif Nat.beq pc 37 then some (.iload_n 1, 0, 0, 0, none, none, []) else none) else (bif Nat.beq pc 34 then some (.goto 14, 48, 0, 0, none, some [0, 3], []) else none))) else (bif Nat.ble 30 pc then (bif Nat.ble 33 pc then (bif Nat.beq pc 33 then some (.pop, 0, 0, 0, none, none, []) else none) else (bif Nat.beq pc 30 then some (.invokestatic 248, 82, 0, 30051, none, none, []) else none)) else (bif Nat.ble 27 pc then (bif Nat.beq pc 27 then some (.getfield 15, 7, 0, 20179, none, none, []) else none) else (bif Nat.beq pc 26 then some (.aload_n 0, 0, 0, 0, none, none, []) else none))))) else (bif Nat.ble 12 pc then (bif Nat.ble 18 pc then (bif Nat.ble 24 pc then (bif Nat.ble 25 pc then (bif Nat.beq pc 25 then some (.iload_n 3, 0, 0, 0, none, none, []) else none) else (bif Nat.beq pc 24 then some (.iload_n 1, 0, 0, 0, none, none, []) else none)) else (bif Nat.ble 21 pc then (bif Nat.beq pc 21 then some (.ifCond .eq 16, 37, 0, 0, none, some [0, 1, 2, 3], []) else none) else (bif Nat.beq pc 18 then some (.invokevirtual 83, 79, 0, 20235, none, none, []) else none))) else (bif Nat.ble 14 pc then (bif Nat.ble 17 pc then (bif Nat.beq pc 17 then some (.aload_n 0, 0, 0, 0, none, none, []) else none) else (bif Nat.beq pc 14 then some (.invokevirtual 100, 74, 0, 20204, none, none, []) else none)) else (bif Nat.ble 13 pc then (bif Nat.beq pc 13 then some (.iload_n 3, 0, 0, 0, none, none, []) else none) else (bif Nat.beq pc 12 then some (.aload_n 0, 0, 0, 0, none, none, []) else none)))) else (bif Nat.ble 6 pc then (bif Nat.ble 10 pc then (bif Nat.ble 11 pc then (bif Nat.beq pc 11 then some (.istore_n 3, 0, 0, 0, none, none, []) else none) else (bif Nat.beq pc 10 then some (.iadd, 0, 0, 0, none, none, []) else none)) else (bif Nat.ble 7 pc then (bif Nat.beq pc 7 then some (.invokestatic 245, 83, 0, 30048, none, none, []) else none) else (bif Nat.beq pc 6 then some (.iload_n 1, 0, 0, 0, none, none, []) else none))) else (bif Nat.ble 4 pc then (bif Nat.ble 5 pc then (bif Nat.beq pc 5 then some (.iload_n 2, 0, 0, 0, none, none, []) else none) else (bif Nat.beq pc 4 then some (.istore_n 2, 0, 0, 0, none, none, []) else none)) else (bif Nat.ble 1 pc then (bif Nat.beq pc 1 then some (.getfield 79, 7, 3, 20182, none, none, []) else none) else (bif Nat.beq pc 0 then some (.aload_n 0, 0, 0, 0, none, none, []) else none)))))
abbrev k_Jasb_getValue_6d5f1 : Nat := 78
noncomputable def tb_78 (pc : Nat) : Option am_I := bif Nat.ble 1 pc then (bif Nat.ble 4 pc then (bif Nat.beq pc 4 then some (.areturn, 0, 0, 0, none, none, []) else none) else (bif Nat.beq pc 1 then some (.getfield 15, 7, 0, 20179, none, none, []) else none)) else (bif Nat.beq pc 0 then some (.aload_n 0, 0, 0, 0, none, none, []) else none)
abbrev k_Jasb_isLatin1_aae02 : Nat := 79
noncomputable def tb_79 (pc : Nat) : Option am_I := bif Nat.ble 10 pc then (bif Nat.ble 14 pc then (bif Nat.ble 17 pc then (bif Nat.ble 18 pc then (bif Nat.beq pc 18 then some (.ireturn, 0, 0, 0, none, none, []) else none) else (bif Nat.beq pc 17 then some (.iconst 0, 0, 0, 0, some [], none, []) else none)) else (bif Nat.beq pc 14 then some (.goto 4, 18, 0, 0, none, some [], []) else none)) else (bif Nat.ble 13 pc then (bif Nat.beq pc 13 then some (.iconst 1, 0, 0, 0, none, none, []) else none) else (bif Nat.beq pc 10 then some (.ifCond .ne 7, 17, 0, 0, none, some [], []) else none))) else (bif Nat.ble 6 pc then (bif Nat.ble 7 pc then (bif Nat.beq pc 7 then some (.getfield 22, 7, 1, 20180, none, none, []) else none) else (bif Nat.beq pc 6 then some (.aload_n 0, 0, 0, 0, none, none, []) else none)) else (bif Nat.ble 3 pc then (bif Nat.beq pc 3 then some (.ifCond .eq 14, 17, 0, 0, none, some [], []) else none) else (bif Nat.beq pc 0 then some (.getstatic 18, 1, 0, 20171, none, none, []) else none)))
abbrev k_Jasb_inflateIfNeededFor_a7421 : Nat := 80
noncomputable def tb_80 (pc : Nat) : Option am_I := bif Nat.ble 10 pc then (bif Nat.ble 14 pc then (bif Nat.ble 17 pc then (bif Nat.ble 21 pc then (bif Nat.beq pc 21 then some (.return_, 0, 0, 0, none, none, []) else none) else (bif Nat.beq pc 17 then some (.aload_n 0, 0, 0, 0, none, none, []) else none)) else (bif Nat.beq pc 14 then some (.if_icmp .eq 7, 21, 0, 0, none, some [], []) else none)) else (bif Nat.ble 11 pc then (bif Nat.beq pc 11 then some (.invokevirtual 40, 93, 0, 30015, none, none, []) else none) else (bif Nat.beq pc 10 then some (.aload_n 1, 0, 0, 0, none, none, []) else none))) else (bif Nat.ble 6 pc then (bif Nat.ble 7 pc then (bif Nat.beq pc 7 then some (.getfield 22, 7, 1, 20180, none, none, []) else none) else (bif Nat.beq pc 6 then some (.aload_n 0, 0, 0, 0, none, none, []) else none)) else (bif Nat.ble 3 pc then (bif Nat.beq pc 3 then some (.ifCond .eq 18, 21, 0, 0, none, some [], []) else none) else (bif Nat.beq pc 0 then some (.getstatic 18, 1, 0, 20171, none, none, []) else none)))
abbrev k_Jasb_putStringAt_47b60 : Nat := 81
noncomputable def tb_81 (pc : Nat) : Option am_I := bif Nat.ble 7 pc then (bif Nat.ble 12 pc then (bif Nat.ble 15 pc then (bif Nat.ble 18 pc then (bif Nat.beq pc 18 then some (.return_, 0, 0, 0, none, none, []) else none) else (bif Nat.beq pc 15 then some (.invokevirtual 399, 91, 0, 30035, none, none, []) else none)) else (bif Nat.beq pc 12 then some (.getfield 22, 7, 1, 20180, none, none, []) else none)) else (bif Nat.ble 10 pc then (bif Nat.ble 11 pc then (bif Nat.beq pc 11 then some (.aload_n 0, 0, 0, 0, none, none, []) else none) else (bif Nat.beq pc 10 then some (.iload_n 1, 0, 0, 0, none, none, []) else none)) else (bif Nat.beq pc 7 then some (.getfield 15, 7, 0, 20179, none, none, []) else none))) else (bif Nat.ble 2 pc then (bif Nat.ble 5 pc then (bif Nat.ble 6 pc then (bif Nat.beq pc 6 then some (.aload_n 0, 0, 0, 0, none, none, []) else none) else (bif Nat.beq pc 5 then some (.aload_n 2, 0, 0, 0, none, none, []) else none)) else (bif Nat.beq pc 2 then some (.invokevirtual 397, 80, 0, 30011, none, none, []) else none)) else (bif Nat.ble 1 pc then (bif Nat.beq pc 1 then some (.aload_n 2, 0, 0, 0, none, none, []) else none) else (bif Nat.beq pc 0 then some (.aload_n 0, 0, 0, 0, none, none, []) else none)))
abbrev k_Jint_getChars_ba4f3 : Nat := 82
noncomputable def tb_82 (pc : Nat) : Option am_I := bif Nat.ble 55 pc then (bif Nat.ble 86 pc then (bif Nat.ble 104 pc then (bif Nat.ble 113 pc then (bif Nat.ble 117 pc then (bif Nat.ble 118 pc then (bif Nat.ble 120 pc then (bif Nat.beq pc 120 then some (.ireturn, 0, 0, 0, none, none, []) else none) else (bif Nat.beq pc 118 then some (.iload 5, 0, 0, 0, none, none, []) else none)) else (bif Nat.beq pc 117 then some (.bastore, 0, 0, 0, some [5], none, []) else none)) else (bif Nat.ble 115 pc then (bif Nat.beq pc 115 then some (.bipush 45, 0, 0, 0, none, none, []) else none) else (bif Nat.beq pc 113 then some (.iload 5, 0, 0, 0, none, none, []) else none))) else (bif Nat.ble 109 pc then (bif Nat.ble 110 pc then (bif Nat.beq pc 110 then some (.iinc 5 (-1), 0, 0, 0, none, none, []) else none) else (bif Nat.beq pc 109 then some (.aload_n 2, 0, 0, 0, none, none, []) else none)) else (bif Nat.ble 106 pc then (bif Nat.beq pc 106 then some (.ifCond .eq 12, 118, 0, 0, none, some [5], []) else none) else (bif Nat.beq pc 104 then some (.iload 6, 0, 0, 0, none, none, []) else none)))) else (bif Nat.ble 95 pc then (bif Nat.ble 101 pc then (bif Nat.ble 102 pc then (bif Nat.ble 103 pc then (bif Nat.beq pc 103 then some (.bastore, 0, 0, 0, some [2, 5, 6], none, []) else none) else (bif Nat.beq pc 102 then some (.baload, 0, 0, 0, none, none, []) else none)) else (bif Nat.beq pc 101 then some (.ineg, 0, 0, 0, none, none, []) else none)) else (bif Nat.ble 100 pc then (bif Nat.beq pc 100 then some (.iload_n 0, 0, 0, 0, none, none, []) else none) else (bif Nat.beq pc 95 then some (.iload 5, 0, 0, 0, none, none, []) else none))) else (bif Nat.ble 91 pc then (bif Nat.ble 92 pc then (bif Nat.beq pc 92 then some (.iinc 5 (-1), 0, 0, 0, none, none, []) else none) else (bif Nat.beq pc 91 then some (.aload_n 2, 0, 0, 0, none, none, []) else none)) else (bif Nat.ble 88 pc then (bif Nat.beq pc 88 then some (.if_icmp .ge 16, 104, 0, 0, none, some [2, 5, 6], []) else none) else (bif Nat.beq pc 86 then some (.bipush (-9), 0, 0, 0, none, none, []) else none))))) else (bif Nat.ble 72 pc then (bif Nat.ble 81 pc then (bif Nat.ble 83 pc then (bif Nat.ble 84 pc then (bif Nat.ble 85 pc then (bif Nat.beq pc 85 then some (.iload_n 0, 0, 0, 0, none, none, []) else none) else (bif Nat.beq pc 84 then some (.bastore, 0, 0, 0, none, none, []) else none)) else (bif Nat.beq pc 83 then some (.baload, 0, 0, 0, none, none, []) else none)) else (bif Nat.ble 82 pc then (bif Nat.beq pc 82 then some (.ineg, 0, 0, 0, none, none, []) else none) else (bif Nat.beq pc 81 then some (.iload_n 0, 0, 0, 0, none, none, []) else none))) else (bif Nat.ble 76 pc then (bif Nat.ble 78 pc then (bif Nat.beq pc 78 then some (.getstatic 83, 2, 0, 30054, none, none, []) else none) else (bif Nat.beq pc 76 then some (.iload 5, 0, 0, 0, none, none, []) else none)) else (bif Nat.ble 73 pc then (bif Nat.beq pc 73 then some (.iinc 5 (-1), 0, 0, 0, none, none, []) else none) else (bif Nat.beq pc 72 then some (.aload_n 2, 0, 0, 0, none, none, []) else none)))) else (bif Nat.ble 65 pc then (bif Nat.ble 68 pc then (bif Nat.ble 69 pc then (bif Nat.beq pc 69 then some (.goto (-47), 22, 0, 0, none, some [0, 2, 5, 6], []) else none) else (bif Nat.beq pc 68 then some (.bastore, 0, 0, 0, none, none, []) else none)) else (bif Nat.ble 67 pc then (bif Nat.beq pc 67 then some (.baload, 0, 0, 0, none, none, []) else none) else (bif Nat.beq pc 65 then some (.iload 4, 0, 0, 0, none, none, []) else none))) else (bif Nat.ble 57 pc then (bif Nat.ble 60 pc then (bif Nat.beq pc 60 then some (.iload 5, 0, 0, 0, none, none, []) else none) else (bif Nat.beq pc 57 then some (.iinc 5 (-1), 0, 0, 0, none, none, []) else none)) else (bif Nat.ble 56 pc then (bif Nat.beq pc 56 then some (.aload_n 2, 0, 0, 0, none, none, []) else none) else (bif Nat.beq pc 55 then some (.bastore, 0, 0, 0, none, none, []) else none)))))) else (bif Nat.ble 29 pc then (bif Nat.ble 39 pc then (bif Nat.ble 44 pc then (bif Nat.ble 49 pc then (bif Nat.ble 52 pc then (bif Nat.ble 54 pc then (bif Nat.beq pc 54 then some (.baload, 0, 0, 0, none, none, []) else none) else (bif Nat.beq pc 52 then some (.iload 4, 0, 0, 0, none, none, []) else none)) else (bif Nat.beq pc 49 then some (.getstatic 83, 2, 0, 30054, none, none, []) else none)) else (bif Nat.ble 47 pc then (bif Nat.beq pc 47 then some (.iload 5, 0, 0, 0, none, none, []) else none) else (bif Nat.beq pc 44 then some (.iinc 5 (-1), 0, 0, 0, none, none, []) else none))) else (bif Nat.ble 42 pc then (bif Nat.ble 43 pc then (bif Nat.beq pc 43 then some (.aload_n 2, 0, 0, 0, none, none, []) else none) else (bif Nat.beq pc 42 then some (.istore_n 0, 0, 0, 0, none, none, []) else none)) else (bif Nat.ble 41 pc then (bif Nat.beq pc 41 then some (.iload_n 3, 0, 0, 0, none, none, []) else none) else (bif Nat.beq pc 39 then some (.istore 4, 0, 0, 0, none, none, []) else none)))) else (bif Nat.ble 34 pc then (bif Nat.ble 37 pc then (bif Nat.ble 38 pc then (bif Nat.beq pc 38 then some (.isub, 0, 0, 0, none, none, []) else none) else (bif Nat.beq pc 37 then some (.iload_n 0, 0, 0, 0, none, none, []) else none)) else (bif Nat.ble 36 pc then (bif Nat.beq pc 36 then some (.imul, 0, 0, 0, none, none, []) else none) else (bif Nat.beq pc 34 then some (.bipush 100, 0, 0, 0, none, none, []) else none))) else (bif Nat.ble 32 pc then (bif Nat.ble 33 pc then (bif Nat.beq pc 33 then some (.iload_n 3, 0, 0, 0, none, none, []) else none) else (bif Nat.beq pc 32 then some (.istore_n 3, 0, 0, 0, none, none, []) else none)) else (bif Nat.ble 31 pc then (bif Nat.beq pc 31 then some (.idiv, 0, 0, 0, none, none, []) else none) else (bif Nat.beq pc 29 then some (.bipush 100, 0, 0, 0, none, none, []) else none))))) else (bif Nat.ble 14 pc then (bif Nat.ble 21 pc then (bif Nat.ble 23 pc then (bif Nat.ble 25 pc then (bif Nat.ble 28 pc then (bif Nat.beq pc 28 then some (.iload_n 0, 0, 0, 0, none, none, []) else none) else (bif Nat.beq pc 25 then some (.if_icmp .gt 47, 72, 0, 0, none, some [0, 2, 5, 6], []) else none)) else (bif Nat.beq pc 23 then some (.bipush (-100), 0, 0, 0, none, none, []) else none)) else (bif Nat.ble 22 pc then (bif Nat.beq pc 22 then some (.iload_n 0, 0, 0, 0, none, none, []) else none) else (bif Nat.beq pc 21 then some (.istore_n 0, 0, 0, 0, some [0, 2, 5, 6], none, []) else none))) else (bif Nat.ble 19 pc then (bif Nat.ble 20 pc then (bif Nat.beq pc 20 then some (.ineg, 0, 0, 0, none, none, []) else none) else (bif Nat.beq pc 19 then some (.iload_n 0, 0, 0, 0, none, none, []) else none)) else (bif Nat.ble 16 pc then (bif Nat.beq pc 16 then some (.ifCond .ne 6, 22, 0, 0, none, some [0, 2, 5, 6], []) else none) else (bif Nat.beq pc 14 then some (.iload 6, 0, 0, 0, none, none, []) else none)))) else (bif Nat.ble 7 pc then (bif Nat.ble 11 pc then (bif Nat.ble 12 pc then (bif Nat.beq pc 12 then some (.istore 6, 0, 0, 0, none, none, []) else none) else (bif Nat.beq pc 11 then some (.iconst 0, 0, 0, 0, some [0, 2, 5], none, []) else none)) else (bif Nat.ble 8 pc then (bif Nat.beq pc 8 then some (.goto 4, 12, 0, 0, none, some [0, 2, 5], []) else none) else (bif Nat.beq pc 7 then some (.iconst 1, 0, 0, 0, none, none, []) else none))) else (bif Nat.ble 3 pc then (bif Nat.ble 4 pc then (bif Nat.beq pc 4 then some (.ifCond .ge 7, 11, 0, 0, none, some [0, 2, 5], []) else none) else (bif Nat.beq pc 3 then some (.iload_n 0, 0, 0, 0, none, none, []) else none)) else (bif Nat.ble 1 pc then (bif Nat.beq pc 1 then some (.istore 5, 0, 0, 0, none, none, []) else none) else (bif Nat.beq pc 0 then some (.iload_n 1, 0, 0, 0, none, none, []) else none))))))
abbrev k_Jint_stringSize_0f7a4 : Nat := 83
noncomputable def tb_83 (pc : Nat) : Option am_I := bif Nat.ble 22 pc then (bif Nat.ble 33 pc then (bif Nat.ble 39 pc then (bif Nat.ble 44 pc then (bif Nat.ble 45 pc then (bif Nat.ble 46 pc then (bif Nat.beq pc 46 then some (.ireturn, 0, 0, 0, none, none, []) else none) else (bif Nat.beq pc 45 then some (.iadd, 0, 0, 0, none, none, []) else none)) else (bif Nat.beq pc 44 then some (.iload_n 1, 0, 0, 0, none, none, []) else none)) else (bif Nat.ble 42 pc then (bif Nat.beq pc 42 then some (.bipush 10, 0, 0, 0, none, none, []) else none) else (bif Nat.beq pc 39 then some (.goto (-23), 16, 0, 0, none, some [0, 1, 2, 3], []) else none))) else (bif Nat.ble 35 pc then (bif Nat.ble 36 pc then (bif Nat.beq pc 36 then some (.iinc 3 1, 0, 0, 0, none, none, []) else none) else (bif Nat.beq pc 35 then some (.istore_n 2, 0, 0, 0, none, none, []) else none)) else (bif Nat.ble 34 pc then (bif Nat.beq pc 34 then some (.imul, 0, 0, 0, none, none, []) else none) else (bif Nat.beq pc 33 then some (.iload_n 2, 0, 0, 0, none, none, []) else none)))) else (bif Nat.ble 28 pc then (bif Nat.ble 30 pc then (bif Nat.ble 31 pc then (bif Nat.beq pc 31 then some (.bipush 10, 0, 0, 0, none, none, []) else none) else (bif Nat.beq pc 30 then some (.ireturn, 0, 0, 0, none, none, []) else none)) else (bif Nat.ble 29 pc then (bif Nat.beq pc 29 then some (.iadd, 0, 0, 0, none, none, []) else none) else (bif Nat.beq pc 28 then some (.iload_n 1, 0, 0, 0, none, none, []) else none))) else (bif Nat.ble 24 pc then (bif Nat.ble 27 pc then (bif Nat.beq pc 27 then some (.iload_n 3, 0, 0, 0, none, none, []) else none) else (bif Nat.beq pc 24 then some (.if_icmp .le 7, 31, 0, 0, none, some [0, 1, 2, 3], []) else none)) else (bif Nat.ble 23 pc then (bif Nat.beq pc 23 then some (.iload_n 2, 0, 0, 0, none, none, []) else none) else (bif Nat.beq pc 22 then some (.iload_n 0, 0, 0, 0, none, none, []) else none))))) else (bif Nat.ble 10 pc then (bif Nat.ble 15 pc then (bif Nat.ble 17 pc then (bif Nat.ble 19 pc then (bif Nat.beq pc 19 then some (.if_icmp .ge 23, 42, 0, 0, none, some [1], []) else none) else (bif Nat.beq pc 17 then some (.bipush 10, 0, 0, 0, none, none, []) else none)) else (bif Nat.ble 16 pc then (bif Nat.beq pc 16 then some (.iload_n 3, 0, 0, 0, none, none, []) else none) else (bif Nat.beq pc 15 then some (.istore_n 3, 0, 0, 0, some [0, 1, 2, 3], none, []) else none))) else (bif Nat.ble 13 pc then (bif Nat.ble 14 pc then (bif Nat.beq pc 14 then some (.iconst 1, 0, 0, 0, none, none, []) else none) else (bif Nat.beq pc 13 then some (.istore_n 2, 0, 0, 0, none, none, []) else none)) else (bif Nat.ble 11 pc then (bif Nat.beq pc 11 then some (.bipush (-10), 0, 0, 0, none, none, []) else none) else (bif Nat.beq pc 10 then some (.istore_n 0, 0, 0, 0, some [0, 1], none, []) else none)))) else (bif Nat.ble 6 pc then (bif Nat.ble 8 pc then (bif Nat.ble 9 pc then (bif Nat.beq pc 9 then some (.ineg, 0, 0, 0, none, none, []) else none) else (bif Nat.beq pc 8 then some (.iload_n 0, 0, 0, 0, none, none, []) else none)) else (bif Nat.ble 7 pc then (bif Nat.beq pc 7 then some (.istore_n 1, 0, 0, 0, none, none, []) else none) else (bif Nat.beq pc 6 then some (.iconst 0, 0, 0, 0, none, none, []) else none))) else (bif Nat.ble 2 pc then (bif Nat.ble 3 pc then (bif Nat.beq pc 3 then some (.ifCond .lt 8, 11, 0, 0, none, some [0, 1], []) else none) else (bif Nat.beq pc 2 then some (.iload_n 0, 0, 0, 0, none, none, []) else none)) else (bif Nat.ble 1 pc then (bif Nat.beq pc 1 then some (.istore_n 1, 0, 0, 0, none, none, []) else none) else (bif Nat.beq pc 0 then some (.iconst 1, 0, 0, 0, none, none, []) else none)))))
abbrev k_Jint_bitCount_0f7a4 : Nat := 84
noncomputable def tb_84 (pc : Nat) : Option am_I := bif Nat.ble 27 pc then (bif Nat.ble 40 pc then (bif Nat.ble 46 pc then (bif Nat.ble 49 pc then (bif Nat.ble 51 pc then (bif Nat.ble 52 pc then (bif Nat.beq pc 52 then some (.ireturn, 0, 0, 0, none, none, []) else none) else (bif Nat.beq pc 51 then some (.iand, 0, 0, 0, none, none, []) else none)) else (bif Nat.beq pc 49 then some (.bipush 63, 0, 0, 0, none, none, []) else none)) else (bif Nat.ble 47 pc then (bif Nat.ble 48 pc then (bif Nat.beq pc 48 then some (.iload_n 0, 0, 0, 0, none, none, []) else none) else (bif Nat.beq pc 47 then some (.istore_n 0, 0, 0, 0, none, none, []) else none)) else (bif Nat.beq pc 46 then some (.iadd, 0, 0, 0, none, none, []) else none))) else (bif Nat.ble 42 pc then (bif Nat.ble 43 pc then (bif Nat.ble 45 pc then (bif Nat.beq pc 45 then some (.iushr, 0, 0, 0, none, none, []) else none) else (bif Nat.beq pc 43 then some (.bipush 16, 0, 0, 0, none, none, []) else none)) else (bif Nat.beq pc 42 then some (.iload_n 0, 0, 0, 0, none, none, []) else none)) else (bif Nat.ble 41 pc then (bif Nat.beq pc 41 then some (.iload_n 0, 0, 0, 0, none, none, []) else none) else (bif Nat.beq pc 40 then some (.istore_n 0, 0, 0, 0, none, none, []) else none)))) else (bif Nat.ble 34 pc then (bif Nat.ble 36 pc then (bif Nat.ble 38 pc then (bif Nat.ble 39 pc then (bif Nat.beq pc 39 then some (.iadd, 0, 0, 0, none, none, []) else none) else (bif Nat.beq pc 38 then some (.iushr, 0, 0, 0, none, none, []) else none)) else (bif Nat.beq pc 36 then some (.bipush 8, 0, 0, 0, none, none, []) else none)) else (bif Nat.ble 35 pc then (bif Nat.beq pc 35 then some (.iload_n 0, 0, 0, 0, none, none, []) else none) else (bif Nat.beq pc 34 then some (.iload_n 0, 0, 0, 0, none, none, []) else none))) else (bif Nat.ble 29 pc then (bif Nat.ble 32 pc then (bif Nat.ble 33 pc then (bif Nat.beq pc 33 then some (.istore_n 0, 0, 0, 0, none, none, []) else none) else (bif Nat.beq pc 32 then some (.iand, 0, 0, 0, none, none, []) else none)) else (bif Nat.beq pc 29 then some (.ldc_w 267, 252645135, 0, 10235, none, none, []) else none)) else (bif Nat.ble 28 pc then (bif Nat.beq pc 28 then some (.iadd, 0, 0, 0, none, none, []) else none) else (bif Nat.beq pc 27 then some (.iushr, 0, 0, 0, none, none, []) else none))))) else (bif Nat.ble 14 pc then (bif Nat.ble 21 pc then (bif Nat.ble 24 pc then (bif Nat.ble 25 pc then (bif Nat.ble 26 pc then (bif Nat.beq pc 26 then some (.iconst 4, 0, 0, 0, none, none, []) else none) else (bif Nat.beq pc 25 then some (.iload_n 0, 0, 0, 0, none, none, []) else none)) else (bif Nat.beq pc 24 then some (.iload_n 0, 0, 0, 0, none, none, []) else none)) else (bif Nat.ble 22 pc then (bif Nat.ble 23 pc then (bif Nat.beq pc 23 then some (.istore_n 0, 0, 0, 0, none, none, []) else none) else (bif Nat.beq pc 22 then some (.iadd, 0, 0, 0, none, none, []) else none)) else (bif Nat.beq pc 21 then some (.iand, 0, 0, 0, none, none, []) else none))) else (bif Nat.ble 16 pc then (bif Nat.ble 17 pc then (bif Nat.ble 18 pc then (bif Nat.beq pc 18 then some (.ldc_w 266, 858993459, 0, 10234, none, none, []) else none) else (bif Nat.beq pc 17 then some (.iushr, 0, 0, 0, none, none, []) else none)) else (bif Nat.beq pc 16 then some (.iconst 2, 0, 0, 0, none, none, []) else none)) else (bif Nat.ble 15 pc then (bif Nat.beq pc 15 then some (.iload_n 0, 0, 0, 0, none, none, []) else none) else (bif Nat.beq pc 14 then some (.iand, 0, 0, 0, none, none, []) else none)))) else (bif Nat.ble 7 pc then (bif Nat.ble 9 pc then (bif Nat.ble 10 pc then (bif Nat.ble 11 pc then (bif Nat.beq pc 11 then some (.ldc_w 266, 858993459, 0, 10234, none, none, []) else none) else (bif Nat.beq pc 10 then some (.iload_n 0, 0, 0, 0, none, none, []) else none)) else (bif Nat.beq pc 9 then some (.istore_n 0, 0, 0, 0, none, none, []) else none)) else (bif Nat.ble 8 pc then (bif Nat.beq pc 8 then some (.isub, 0, 0, 0, none, none, []) else none) else (bif Nat.beq pc 7 then some (.iand, 0, 0, 0, none, none, []) else none))) else (bif Nat.ble 2 pc then (bif Nat.ble 3 pc then (bif Nat.ble 4 pc then (bif Nat.beq pc 4 then some (.ldc_w 265, 1431655765, 0, 10233, none, none, []) else none) else (bif Nat.beq pc 3 then some (.iushr, 0, 0, 0, none, none, []) else none)) else (bif Nat.beq pc 2 then some (.iconst 1, 0, 0, 0, none, none, []) else none)) else (bif Nat.ble 1 pc then (bif Nat.beq pc 1 then some (.iload_n 0, 0, 0, 0, none, none, []) else none) else (bif Nat.beq pc 0 then some (.iload_n 0, 0, 0, 0, none, none, []) else none)))))
abbrev k_Jlong_bitCount_95d88 : Nat := 85
noncomputable def tb_85 (pc : Nat) : Option am_I := bif Nat.ble 32 pc then (bif Nat.ble 46 pc then (bif Nat.ble 53 pc then (bif Nat.ble 56 pc then (bif Nat.ble 59 pc then (bif Nat.ble 60 pc then (bif Nat.beq pc 60 then some (.ireturn, 0, 0, 0, none, none, []) else none) else (bif Nat.beq pc 59 then some (.iand, 0, 0, 0, none, none, []) else none)) else (bif Nat.ble 57 pc then (bif Nat.beq pc 57 then some (.bipush 127, 0, 0, 0, none, none, []) else none) else (bif Nat.beq pc 56 then some (.l2i, 0, 0, 0, none, none, []) else none))) else (bif Nat.ble 54 pc then (bif Nat.ble 55 pc then (bif Nat.beq pc 55 then some (.lload_n 0, 0, 0, 0, none, none, []) else none) else (bif Nat.beq pc 54 then some (.lstore_n 0, 0, 0, 0, none, none, []) else none)) else (bif Nat.beq pc 53 then some (.ladd, 0, 0, 0, none, none, []) else none))) else (bif Nat.ble 49 pc then (bif Nat.ble 50 pc then (bif Nat.ble 52 pc then (bif Nat.beq pc 52 then some (.lushr, 0, 0, 0, none, none, []) else none) else (bif Nat.beq pc 50 then some (.bipush 32, 0, 0, 0, none, none, []) else none)) else (bif Nat.beq pc 49 then some (.lload_n 0, 0, 0, 0, none, none, []) else none)) else (bif Nat.ble 47 pc then (bif Nat.ble 48 pc then (bif Nat.beq pc 48 then some (.lload_n 0, 0, 0, 0, none, none, []) else none) else (bif Nat.beq pc 47 then some (.lstore_n 0, 0, 0, 0, none, none, []) else none)) else (bif Nat.beq pc 46 then some (.ladd, 0, 0, 0, none, none, []) else none)))) else (bif Nat.ble 39 pc then (bif Nat.ble 42 pc then (bif Nat.ble 43 pc then (bif Nat.ble 45 pc then (bif Nat.beq pc 45 then some (.lushr, 0, 0, 0, none, none, []) else none) else (bif Nat.beq pc 43 then some (.bipush 16, 0, 0, 0, none, none, []) else none)) else (bif Nat.beq pc 42 then some (.lload_n 0, 0, 0, 0, none, none, []) else none)) else (bif Nat.ble 40 pc then (bif Nat.ble 41 pc then (bif Nat.beq pc 41 then some (.lload_n 0, 0, 0, 0, none, none, []) else none) else (bif Nat.beq pc 40 then some (.lstore_n 0, 0, 0, 0, none, none, []) else none)) else (bif Nat.beq pc 39 then some (.ladd, 0, 0, 0, none, none, []) else none))) else (bif Nat.ble 35 pc then (bif Nat.ble 36 pc then (bif Nat.ble 38 pc then (bif Nat.beq pc 38 then some (.lushr, 0, 0, 0, none, none, []) else none) else (bif Nat.beq pc 36 then some (.bipush 8, 0, 0, 0, none, none, []) else none)) else (bif Nat.beq pc 35 then some (.lload_n 0, 0, 0, 0, none, none, []) else none)) else (bif Nat.ble 33 pc then (bif Nat.ble 34 pc then (bif Nat.beq pc 34 then some (.lload_n 0, 0, 0, 0, none, none, []) else none) else (bif Nat.beq pc 33 then some (.lstore_n 0, 0, 0, 0, none, none, []) else none)) else (bif Nat.beq pc 32 then some (.land, 0, 0, 0, none, none, []) else none))))) else (bif Nat.ble 16 pc then (bif Nat.ble 24 pc then (bif Nat.ble 27 pc then (bif Nat.ble 28 pc then (bif Nat.ble 29 pc then (bif Nat.beq pc 29 then some (.ldc2_w 318, 1085102592571150095, 1, 30182, none, none, []) else none) else (bif Nat.beq pc 28 then some (.ladd, 0, 0, 0, none, none, []) else none)) else (bif Nat.beq pc 27 then some (.lushr, 0, 0, 0, none, none, []) else none)) else (bif Nat.ble 25 pc then (bif Nat.ble 26 pc then (bif Nat.beq pc 26 then some (.iconst 4, 0, 0, 0, none, none, []) else none) else (bif Nat.beq pc 25 then some (.lload_n 0, 0, 0, 0, none, none, []) else none)) else (bif Nat.beq pc 24 then some (.lload_n 0, 0, 0, 0, none, none, []) else none))) else (bif Nat.ble 21 pc then (bif Nat.ble 22 pc then (bif Nat.ble 23 pc then (bif Nat.beq pc 23 then some (.lstore_n 0, 0, 0, 0, none, none, []) else none) else (bif Nat.beq pc 22 then some (.ladd, 0, 0, 0, none, none, []) else none)) else (bif Nat.beq pc 21 then some (.land, 0, 0, 0, none, none, []) else none)) else (bif Nat.ble 17 pc then (bif Nat.ble 18 pc then (bif Nat.beq pc 18 then some (.ldc2_w 316, 3689348814741910323, 1, 30181, none, none, []) else none) else (bif Nat.beq pc 17 then some (.lushr, 0, 0, 0, none, none, []) else none)) else (bif Nat.beq pc 16 then some (.iconst 2, 0, 0, 0, none, none, []) else none)))) else (bif Nat.ble 8 pc then (bif Nat.ble 11 pc then (bif Nat.ble 14 pc then (bif Nat.ble 15 pc then (bif Nat.beq pc 15 then some (.lload_n 0, 0, 0, 0, none, none, []) else none) else (bif Nat.beq pc 14 then some (.land, 0, 0, 0, none, none, []) else none)) else (bif Nat.beq pc 11 then some (.ldc2_w 316, 3689348814741910323, 1, 30181, none, none, []) else none)) else (bif Nat.ble 9 pc then (bif Nat.ble 10 pc then (bif Nat.beq pc 10 then some (.lload_n 0, 0, 0, 0, none, none, []) else none) else (bif Nat.beq pc 9 then some (.lstore_n 0, 0, 0, 0, none, none, []) else none)) else (bif Nat.beq pc 8 then some (.lsub, 0, 0, 0, none, none, []) else none))) else (bif Nat.ble 3 pc then (bif Nat.ble 4 pc then (bif Nat.ble 7 pc then (bif Nat.beq pc 7 then some (.land, 0, 0, 0, none, none, []) else none) else (bif Nat.beq pc 4 then some (.ldc2_w 314, 6148914691236517205, 1, 30180, none, none, []) else none)) else (bif Nat.beq pc 3 then some (.lushr, 0, 0, 0, none, none, []) else none)) else (bif Nat.ble 1 pc then (bif Nat.ble 2 pc then (bif Nat.beq pc 2 then some (.iconst 1, 0, 0, 0, none, none, []) else none) else (bif Nat.beq pc 1 then some (.lload_n 0, 0, 0, 0, none, none, []) else none)) else (bif Nat.beq pc 0 then some (.lload_n 0, 0, 0, 0, none, none, []) else none)))))
abbrev k_Jstr_init_81219 : Nat := 86
noncomputable def tb_86 (pc : Nat) : Option am_I := bif Nat.ble 2 pc then (bif Nat.ble 3 pc then (bif Nat.ble 6 pc then (bif Nat.beq pc 6 then some (.return_, 0, 0, 0, none, none, []) else none) else (bif Nat.beq pc 3 then some (.invokespecial 489, 92, 0, 30078, none, none, []) else none)) else (bif Nat.beq pc 2 then some (.aconst_null, 0, 0, 0, none, none, []) else none)) else (bif Nat.ble 1 pc then (bif Nat.beq pc 1 then some (.aload_n 1, 0, 0, 0, none, none, []) else none) else (bif Nat.beq pc 0 then some (.aload_n 0, 0, 0, 0, none, none, []) else none))
abbrev k_Jstr_length_8abf5 : Nat := 87
noncomputable def tb_87 (pc : Nat) : Option am_I := bif Nat.ble 5 pc then (bif Nat.ble 9 pc then (bif Nat.ble 10 pc then (bif Nat.beq pc 10 then some (.ireturn, 0, 0, 0, none, none, []) else none) else (bif Nat.beq pc 9 then some (.ishr, 0, 0, 0, none, none, []) else none)) else (bif Nat.ble 6 pc then (bif Nat.beq pc 6 then some (.invokevirtual 335, 93, 0, 142, none, none, []) else none) else (bif Nat.beq pc 5 then some (.aload_n 0, 0, 0, 0, none, none, []) else none))) else (bif Nat.ble 1 pc then (bif Nat.ble 4 pc then (bif Nat.beq pc 4 then some (.arraylength, 0, 0, 0, none, none, []) else none) else (bif Nat.beq pc 1 then some (.getfield 9, 8, 0, 30115, none, none, []) else none)) else (bif Nat.beq pc 0 then some (.aload_n 0, 0, 0, 0, none, none, []) else none))
abbrev k_Jstr_charAt_5068e : Nat := 88
noncomputable def tb_88 (pc : Nat) : Option am_I := bif Nat.ble 12 pc then (bif Nat.ble 17 pc then (bif Nat.ble 21 pc then (bif Nat.ble 24 pc then (bif Nat.beq pc 24 then some (.ireturn, 0, 0, 0, none, none, []) else none) else (bif Nat.beq pc 21 then some (.invokestatic 498, 9005, 0, 167, none, none, []) else none)) else (bif Nat.ble 20 pc then (bif Nat.beq pc 20 then some (.iload_n 1, 0, 0, 0, none, none, []) else none) else (bif Nat.beq pc 17 then some (.getfield 9, 8, 0, 30115, none, none, []) else none))) else (bif Nat.ble 15 pc then (bif Nat.ble 16 pc then (bif Nat.beq pc 16 then some (.aload_n 0, 0, 0, 0, none, none, []) else none) else (bif Nat.beq pc 15 then some (.ireturn, 0, 0, 0, none, none, []) else none)) else (bif Nat.beq pc 12 then some (.invokestatic 495, 100, 0, 156, none, none, []) else none))) else (bif Nat.ble 7 pc then (bif Nat.ble 8 pc then (bif Nat.ble 11 pc then (bif Nat.beq pc 11 then some (.iload_n 1, 0, 0, 0, none, none, []) else none) else (bif Nat.beq pc 8 then some (.getfield 9, 8, 0, 30115, none, none, []) else none)) else (bif Nat.beq pc 7 then some (.aload_n 0, 0, 0, 0, none, none, []) else none)) else (bif Nat.ble 1 pc then (bif Nat.ble 4 pc then (bif Nat.beq pc 4 then some (.ifCond .eq 12, 16, 0, 0, none, some [0, 1], []) else none) else (bif Nat.beq pc 1 then some (.invokevirtual 492, 94, 0, 152, none, none, []) else none)) else (bif Nat.beq pc 0 then some (.aload_n 0, 0, 0, 0, none, none, []) else none)))
abbrev k_Jstr_indexOf_0f7a4 : Nat := 89
noncomputable def tb_89 (pc : Nat) : Option am_I := bif Nat.ble 2 pc then (bif Nat.ble 3 pc then (bif Nat.ble 6 pc then (bif Nat.beq pc 6 then some (.ireturn, 0, 0, 0, none, none, []) else none) else (bif Nat.beq pc 3 then some (.invokevirtual 633, 90, 0, 221, none, none, []) else none)) else (bif Nat.beq pc 2 then some (.iconst 0, 0, 0, 0, none, none, []) else none)) else (bif Nat.ble 1 pc then (bif Nat.beq pc 1 then some (.iload_n 1, 0, 0, 0, none, none, []) else none) else (bif Nat.beq pc 0 then some (.aload_n 0, 0, 0, 0, none, none, []) else none))
abbrev k_Jstr_indexOf_7cf53 : Nat := 90
noncomputable def tb_90 (pc : Nat) : Option am_I := bif Nat.ble 17 pc then (bif Nat.ble 28 pc then (bif Nat.ble 30 pc then (bif Nat.ble 33 pc then (bif Nat.ble 36 pc then (bif Nat.beq pc 36 then some (.ireturn, 0, 0, 0, none, none, []) else none) else (bif Nat.beq pc 33 then some (.invokestatic 640, 9005, 0, 10001, some [], none, []) else none)) else (bif Nat.beq pc 30 then some (.invokevirtual 505, 87, 0, 225, none, none, []) else none)) else (bif Nat.ble 29 pc then (bif Nat.beq pc 29 then some (.aload_n 0, 0, 0, 0, none, none, []) else none) else (bif Nat.beq pc 28 then some (.iload_n 2, 0, 0, 0, none, none, []) else none))) else (bif Nat.ble 23 pc then (bif Nat.ble 24 pc then (bif Nat.ble 27 pc then (bif Nat.beq pc 27 then some (.iload_n 1, 0, 0, 0, none, none, []) else none) else (bif Nat.beq pc 24 then some (.getfield 9, 8, 0, 30115, none, none, []) else none)) else (bif Nat.beq pc 23 then some (.aload_n 0, 0, 0, 0, none, none, []) else none)) else (bif Nat.ble 20 pc then (bif Nat.beq pc 20 then some (.goto 16, 36, 0, 0, none, some [], []) else none) else (bif Nat.beq pc 17 then some (.invokestatic 637, 102, 0, 226, none, none, []) else none)))) else (bif Nat.ble 8 pc then (bif Nat.ble 12 pc then (bif Nat.ble 13 pc then (bif Nat.ble 14 pc then (bif Nat.beq pc 14 then some (.invokevirtual 505, 87, 0, 225, none, none, []) else none) else (bif Nat.beq pc 13 then some (.aload_n 0, 0, 0, 0, none, none, []) else none)) else (bif Nat.beq pc 12 then some (.iload_n 2, 0, 0, 0, none, none, []) else none)) else (bif Nat.ble 11 pc then (bif Nat.beq pc 11 then some (.iload_n 1, 0, 0, 0, none, none, []) else none) else (bif Nat.beq pc 8 then some (.getfield 9, 8, 0, 30115, none, none, []) else none))) else (bif Nat.ble 4 pc then (bif Nat.ble 7 pc then (bif Nat.beq pc 7 then some (.aload_n 0, 0, 0, 0, none, none, []) else none) else (bif Nat.beq pc 4 then some (.ifCond .eq 19, 23, 0, 0, none, some [0, 1, 2], []) else none)) else (bif Nat.ble 1 pc then (bif Nat.beq pc 1 then some (.invokevirtual 492, 94, 0, 152, none, none, []) else none) else (bif Nat.beq pc 0 then some (.aload_n 0, 0, 0, 0, none, none, []) else none))))
abbrev k_Jstr_getBytes_840e7 : Nat := 91
noncomputable def tb_91 (pc : Nat) : Option am_I := bif Nat.ble 18 pc then (bif Nat.ble 32 pc then (bif Nat.ble 35 pc then (bif Nat.ble 39 pc then (bif Nat.ble 43 pc then (bif Nat.beq pc 43 then some (.return_, 0, 0, 0, none, none, []) else none) else (bif Nat.beq pc 39 then some (.arraylength, 0, 0, 0, none, none, []) else none)) else (bif Nat.ble 36 pc then (bif Nat.beq pc 36 then some (.getfield 9, 8, 0, 30115, none, none, []) else none) else (bif Nat.beq pc 35 then some (.aload_n 0, 0, 0, 0, none, none, []) else none))) else (bif Nat.ble 33 pc then (bif Nat.ble 34 pc then (bif Nat.beq pc 34 then some (.iload_n 2, 0, 0, 0, none, none, []) else none) else (bif Nat.beq pc 33 then some (.aload_n 1, 0, 0, 0, none, none, []) else none)) else (bif Nat.beq pc 32 then some (.iconst 0, 0, 0, 0, none, none, []) else none))) else (bif Nat.ble 25 pc then (bif Nat.ble 28 pc then (bif Nat.ble 29 pc then (bif Nat.beq pc 29 then some (.getfield 9, 8, 0, 30115, none, none, []) else none) else (bif Nat.beq pc 28 then some (.aload_n 0, 0, 0, 0, none, none, []) else none)) else (bif Nat.beq pc 25 then some (.goto 18, 43, 0, 0, none, some [], []) else none)) else (bif Nat.ble 21 pc then (bif Nat.ble 22 pc then (bif Nat.beq pc 22 then some (.invokestatic 212, 9003, 0, 30039, none, none, []) else none) else (bif Nat.beq pc 21 then some (.arraylength, 0, 0, 0, none, none, []) else none)) else (bif Nat.beq pc 18 then some (.getfield 9, 8, 0, 30115, none, none, []) else none)))) else (bif Nat.ble 12 pc then (bif Nat.ble 15 pc then (bif Nat.ble 16 pc then (bif Nat.ble 17 pc then (bif Nat.beq pc 17 then some (.aload_n 0, 0, 0, 0, none, none, []) else none) else (bif Nat.beq pc 16 then some (.ishl, 0, 0, 0, none, none, []) else none)) else (bif Nat.beq pc 15 then some (.iload_n 3, 0, 0, 0, none, none, []) else none)) else (bif Nat.ble 13 pc then (bif Nat.ble 14 pc then (bif Nat.beq pc 14 then some (.iload_n 2, 0, 0, 0, none, none, []) else none) else (bif Nat.beq pc 13 then some (.aload_n 1, 0, 0, 0, none, none, []) else none)) else (bif Nat.beq pc 12 then some (.iconst 0, 0, 0, 0, none, none, []) else none))) else (bif Nat.ble 5 pc then (bif Nat.ble 8 pc then (bif Nat.ble 9 pc then (bif Nat.beq pc 9 then some (.getfield 9, 8, 0, 30115, none, none, []) else none) else (bif Nat.beq pc 8 then some (.aload_n 0, 0, 0, 0, none, none, []) else none)) else (bif Nat.beq pc 5 then some (.if_icmp .ne 23, 28, 0, 0, none, some [0, 1, 2], []) else none)) else (bif Nat.ble 1 pc then (bif Nat.ble 4 pc then (bif Nat.beq pc 4 then some (.iload_n 3, 0, 0, 0, none, none, []) else none) else (bif Nat.beq pc 1 then some (.invokevirtual 335, 93, 0, 142, none, none, []) else none)) else (bif Nat.beq pc 0 then some (.aload_n 0, 0, 0, 0, none, none, []) else none))))
abbrev k_Jstr_init_db425 : Nat := 92
noncomputable def tb_92 (pc : Nat) : Option am_I := bif Nat.ble 48 pc then (bif Nat.ble 78 pc then (bif Nat.ble 86 pc then (bif Nat.ble 90 pc then (bif Nat.ble 94 pc then (bif Nat.ble 97 pc then (bif Nat.beq pc 97 then some (.return_, 0, 0, 0, none, none, []) else none) else (bif Nat.beq pc 94 then some (.putfield 9, 8, 0, 30115, some [], none, []) else none)) else (bif Nat.ble 91 pc then (bif Nat.beq pc 91 then some (.invokestatic 54, 106, 0, 30096, none, none, []) else none) else (bif Nat.beq pc 90 then some (.ishl, 0, 0, 0, none, none, []) else none))) else (bif Nat.ble 87 pc then (bif Nat.ble 89 pc then (bif Nat.beq pc 89 then some (.iconst 1, 0, 0, 0, none, none, []) else none) else (bif Nat.beq pc 87 then some (.iload 4, 0, 0, 0, none, none, []) else none)) else (bif Nat.beq pc 86 then some (.iconst 0, 0, 0, 0, none, none, []) else none))) else (bif Nat.ble 81 pc then (bif Nat.ble 84 pc then (bif Nat.ble 85 pc then (bif Nat.beq pc 85 then some (.aload_n 3, 0, 0, 0, none, none, []) else none) else (bif Nat.beq pc 84 then some (.aload_n 0, 0, 0, 0, none, none, []) else none)) else (bif Nat.beq pc 81 then some (.putfield 15, 8, 1, 30116, none, none, []) else none)) else (bif Nat.ble 79 pc then (bif Nat.ble 80 pc then (bif Nat.beq pc 80 then some (.iconst 1, 0, 0, 0, none, none, []) else none) else (bif Nat.beq pc 79 then some (.aload_n 0, 0, 0, 0, none, none, []) else none)) else (bif Nat.beq pc 78 then some (.return_, 0, 0, 0, none, none, []) else none)))) else (bif Nat.ble 62 pc then (bif Nat.ble 67 pc then (bif Nat.ble 70 pc then (bif Nat.ble 75 pc then (bif Nat.beq pc 75 then some (.putfield 15, 8, 1, 30116, none, none, []) else none) else (bif Nat.beq pc 70 then some (.iload 4, 0, 0, 0, none, none, []) else none)) else (bif Nat.beq pc 67 then some (.getfield 9, 8, 0, 30115, none, none, []) else none)) else (bif Nat.ble 65 pc then (bif Nat.ble 66 pc then (bif Nat.beq pc 66 then some (.aload_n 0, 0, 0, 0, none, none, []) else none) else (bif Nat.beq pc 65 then some (.aload_n 0, 0, 0, 0, none, none, []) else none)) else (bif Nat.beq pc 62 then some (.putfield 9, 8, 0, 30115, none, none, []) else none))) else (bif Nat.ble 55 pc then (bif Nat.ble 56 pc then (bif Nat.ble 57 pc then (bif Nat.beq pc 57 then some (.iload 4, 0, 0, 0, none, none, []) else none) else (bif Nat.beq pc 56 then some (.iconst 0, 0, 0, 0, none, none, []) else none)) else (bif Nat.beq pc 55 then some (.aload_n 3, 0, 0, 0, none, none, []) else none)) else (bif Nat.ble 51 pc then (bif Nat.ble 54 pc then (bif Nat.beq pc 54 then some (.aload_n 0, 0, 0, 0, none, none, []) else none) else (bif Nat.beq pc 51 then some (.ifCond .eq 28, 79, 0, 0, none, some [0, 3, 4], []) else none)) else (bif Nat.beq pc 48 then some (.getfield 1048, 7, 2, 20181, none, none, []) else none))))) else (bif Nat.ble 23 pc then (bif Nat.ble 32 pc then (bif Nat.ble 41 pc then (bif Nat.ble 44 pc then (bif Nat.ble 47 pc then (bif Nat.beq pc 47 then some (.aload_n 1, 0, 0, 0, none, none, []) else none) else (bif Nat.beq pc 44 then some (.ifCond .eq 35, 79, 0, 0, none, some [0, 3, 4], []) else none)) else (bif Nat.beq pc 41 then some (.getstatic 38, 1, 0, 146, none, none, []) else none)) else (bif Nat.ble 35 pc then (bif Nat.ble 38 pc then (bif Nat.beq pc 38 then some (.goto 59, 97, 0, 0, none, some [], []) else none) else (bif Nat.beq pc 35 then some (.putfield 9, 8, 0, 30115, none, none, []) else none)) else (bif Nat.beq pc 32 then some (.invokestatic 54, 106, 0, 30096, none, none, []) else none))) else (bif Nat.ble 28 pc then (bif Nat.ble 29 pc then (bif Nat.ble 30 pc then (bif Nat.beq pc 30 then some (.iload 4, 0, 0, 0, none, none, []) else none) else (bif Nat.beq pc 29 then some (.iconst 0, 0, 0, 0, none, none, []) else none)) else (bif Nat.beq pc 28 then some (.aload_n 3, 0, 0, 0, none, none, []) else none)) else (bif Nat.ble 24 pc then (bif Nat.ble 27 pc then (bif Nat.beq pc 27 then some (.aload_n 0, 0, 0, 0, none, none, []) else none) else (bif Nat.beq pc 24 then some (.putfield 15, 8, 1, 30116, none, none, []) else none)) else (bif Nat.beq pc 23 then some (.iconst 0, 0, 0, 0, none, none, []) else none)))) else (bif Nat.ble 10 pc then (bif Nat.ble 16 pc then (bif Nat.ble 19 pc then (bif Nat.ble 22 pc then (bif Nat.beq pc 22 then some (.aload_n 0, 0, 0, 0, none, none, []) else none) else (bif Nat.beq pc 19 then some (.ifCond .eq 22, 41, 0, 0, none, some [0, 1, 3, 4], []) else none)) else (bif Nat.beq pc 16 then some (.invokevirtual 1047, 79, 0, 30095, none, none, []) else none)) else (bif Nat.ble 13 pc then (bif Nat.ble 15 pc then (bif Nat.beq pc 15 then some (.aload_n 1, 0, 0, 0, none, none, []) else none) else (bif Nat.beq pc 13 then some (.istore 4, 0, 0, 0, none, none, []) else none)) else (bif Nat.beq pc 10 then some (.invokevirtual 549, 99, 2, 30087, none, none, []) else none))) else (bif Nat.ble 5 pc then (bif Nat.ble 8 pc then (bif Nat.ble 9 pc then (bif Nat.beq pc 9 then some (.aload_n 1, 0, 0, 0, none, none, []) else none) else (bif Nat.beq pc 8 then some (.astore_n 3, 0, 0, 0, none, none, []) else none)) else (bif Nat.beq pc 5 then some (.invokevirtual 552, 78, 0, 30082, none, none, []) else none)) else (bif Nat.ble 1 pc then (bif Nat.ble 4 pc then (bif Nat.beq pc 4 then some (.aload_n 1, 0, 0, 0, none, none, []) else none) else (bif Nat.beq pc 1 then some (.invokespecial 1, 9999, 0, 30081, none, none, []) else none)) else (bif Nat.beq pc 0 then some (.aload_n 0, 0, 0, 0, none, none, []) else none)))))
abbrev k_Jstr_coder_7d493 : Nat := 93
noncomputable def tb_93 (pc : Nat) : Option am_I := bif Nat.ble 7 pc then (bif Nat.ble 13 pc then (bif Nat.ble 14 pc then (bif Nat.beq pc 14 then some (.ireturn, 0, 0, 0, none, none, []) else none) else (bif Nat.beq pc 13 then some (.iconst 1, 0, 0, 0, some [], none, []) else none)) else (bif Nat.ble 10 pc then (bif Nat.beq pc 10 then some (.goto 4, 14, 0, 0, none, some [], []) else none) else (bif Nat.beq pc 7 then some (.getfield 15, 8, 1, 30116, none, none, []) else none))) else (bif Nat.ble 3 pc then (bif Nat.ble 6 pc then (bif Nat.beq pc 6 then some (.aload_n 0, 0, 0, 0, none, none, []) else none) else (bif Nat.beq pc 3 then some (.ifCond .eq 10, 13, 0, 0, none, some [], []) else none)) else (bif Nat.beq pc 0 then some (.getstatic 38, 1, 0, 146, none, none, []) else none))
abbrev k_Jstr_isLatin1_aae02 : Nat := 94
noncomputable def tb_94 (pc : Nat) : Option am_I := bif Nat.ble 10 pc then (bif Nat.ble 14 pc then (bif Nat.ble 17 pc then (bif Nat.ble 18 pc then (bif Nat.beq pc 18 then some (.ireturn, 0, 0, 0, none, none, []) else none) else (bif Nat.beq pc 17 then some (.iconst 0, 0, 0, 0, some [], none, []) else none)) else (bif Nat.beq pc 14 then some (.goto 4, 18, 0, 0, none, some [], []) else none)) else (bif Nat.ble 13 pc then (bif Nat.beq pc 13 then some (.iconst 1, 0, 0, 0, none, none, []) else none) else (bif Nat.beq pc 10 then some (.ifCond .ne 7, 17, 0, 0, none, some [], []) else none))) else (bif Nat.ble 6 pc then (bif Nat.ble 7 pc then (bif Nat.beq pc 7 then some (.getfield 15, 8, 1, 30116, none, none, []) else none) else (bif Nat.beq pc 6 then some (.aload_n 0, 0, 0, 0, none, none, []) else none)) else (bif Nat.ble 3 pc then (bif Nat.beq pc 3 then some (.ifCond .eq 14, 17, 0, 0, none, some [], []) else none) else (bif Nat.beq pc 0 then some (.getstatic 38, 1, 0, 146, none, none, []) else none)))
abbrev k_Jsb_init_da8c8 : Nat := 95
noncomputable def tb_95 (pc : Nat) : Option am_I := bif Nat.ble 3 pc then (bif Nat.ble 6 pc then (bif Nat.beq pc 6 then some (.return_, 0, 0, 0, none, none, []) else none) else (bif Nat.beq pc 3 then some (.invokespecial 1, 72, 0, 20167, none, none, []) else none)) else (bif Nat.ble 1 pc then (bif Nat.beq pc 1 then some (.bipush 16, 0, 0, 0, none, none, []) else none) else (bif Nat.beq pc 0 then some (.aload_n 0, 0, 0, 0, none, none, []) else none))
abbrev k_Jsb_append_15ec4 : Nat := 96
noncomputable def tb_96 (pc : Nat) : Option am_I := bif Nat.ble 5 pc then (bif Nat.ble 6 pc then (bif Nat.ble 7 pc then (bif Nat.beq pc 7 then some (.areturn, 0, 0, 0, none, none, []) else none) else (bif Nat.beq pc 6 then some (.aload_n 0, 0, 0, 0, none, none, []) else none)) else (bif Nat.beq pc 5 then some (.pop, 0, 0, 0, none, none, []) else none)) else (bif Nat.ble 1 pc then (bif Nat.ble 2 pc then (bif Nat.beq pc 2 then some (.invokespecial 29, 76, 0, 20197, none, none, []) else none) else (bif Nat.beq pc 1 then some (.aload_n 1, 0, 0, 0, none, none, []) else none)) else (bif Nat.beq pc 0 then some (.aload_n 0, 0, 0, 0, none, none, []) else none))
abbrev k_Jsb_append_bf812 : Nat := 97
noncomputable def tb_97 (pc : Nat) : Option am_I := bif Nat.ble 5 pc then (bif Nat.ble 6 pc then (bif Nat.ble 7 pc then (bif Nat.beq pc 7 then some (.areturn, 0, 0, 0, none, none, []) else none) else (bif Nat.beq pc 6 then some (.aload_n 0, 0, 0, 0, none, none, []) else none)) else (bif Nat.beq pc 5 then some (.pop, 0, 0, 0, none, none, []) else none)) else (bif Nat.ble 1 pc then (bif Nat.ble 2 pc then (bif Nat.beq pc 2 then some (.invokespecial 53, 77, 0, 30045, none, none, []) else none) else (bif Nat.beq pc 1 then some (.iload_n 1, 0, 0, 0, none, none, []) else none)) else (bif Nat.beq pc 0 then some (.aload_n 0, 0, 0, 0, none, none, []) else none))
abbrev k_Jsb_toString_0e30d : Nat := 98
noncomputable def tb_98 (pc : Nat) : Option am_I := bif Nat.ble 4 pc then (bif Nat.ble 5 pc then (bif Nat.ble 8 pc then (bif Nat.beq pc 8 then some (.areturn, 0, 0, 0, none, none, []) else none) else (bif Nat.beq pc 5 then some (.invokespecial 137, 86, 0, 30075, none, none, []) else none)) else (bif Nat.beq pc 4 then some (.aload_n 0, 0, 0, 0, none, none, []) else none)) else (bif Nat.ble 3 pc then (bif Nat.beq pc 3 then some (.dup, 0, 0, 0, none, none, []) else none) else (bif Nat.beq pc 0 then some (.new 18, 8, 0, 30073, none, none, []) else none))
abbrev k_Jsb_length_8abf5 : Nat := 99
noncomputable def tb_99 (pc : Nat) : Option am_I := bif Nat.ble 1 pc then (bif Nat.ble 4 pc then (bif Nat.beq pc 4 then some (.ireturn, 0, 0, 0, none, none, []) else none) else (bif Nat.beq pc 1 then some (.invokespecial 343, 73, 0, 30093, none, none, []) else none)) else (bif Nat.beq pc 0 then some (.aload_n 0, 0, 0, 0, none, none, []) else none)
abbrev k_Jlat_charAt_3b067 : Nat := 100
noncomputable def tb_100 (pc : Nat) : Option am_I := bif Nat.ble 7 pc then (bif Nat.ble 12 pc then (bif Nat.ble 13 pc then (bif Nat.ble 14 pc then (bif Nat.beq pc 14 then some (.ireturn, 0, 0, 0, none, none, []) else none) else (bif Nat.beq pc 13 then some (.i2c, 0, 0, 0, none, none, []) else none)) else (bif Nat.beq pc 12 then some (.iand, 0, 0, 0, none, none, []) else none)) else (bif Nat.ble 8 pc then (bif Nat.ble 9 pc then (bif Nat.beq pc 9 then some (.sipush 255, 0, 0, 0, none, none, []) else none) else (bif Nat.beq pc 8 then some (.baload, 0, 0, 0, none, none, []) else none)) else (bif Nat.beq pc 7 then some (.iload_n 1, 0, 0, 0, none, none, []) else none))) else (bif Nat.ble 2 pc then (bif Nat.ble 3 pc then (bif Nat.ble 6 pc then (bif Nat.beq pc 6 then some (.aload_n 0, 0, 0, 0, none, none, []) else none) else (bif Nat.beq pc 3 then some (.invokestatic 9, 9004, 0, 159, none, none, []) else none)) else (bif Nat.beq pc 2 then some (.arraylength, 0, 0, 0, none, none, []) else none)) else (bif Nat.ble 1 pc then (bif Nat.beq pc 1 then some (.aload_n 0, 0, 0, 0, none, none, []) else none) else (bif Nat.beq pc 0 then some (.iload_n 1, 0, 0, 0, none, none, []) else none)))
abbrev k_Jlat_canEncode_9a6ad : Nat := 101
noncomputable def tb_101 (pc : Nat) : Option am_I := bif Nat.ble 8 pc then (bif Nat.ble 12 pc then (bif Nat.ble 15 pc then (bif Nat.ble 16 pc then (bif Nat.beq pc 16 then some (.ireturn, 0, 0, 0, none, none, []) else none) else (bif Nat.beq pc 15 then some (.iconst 0, 0, 0, 0, some [], none, []) else none)) else (bif Nat.beq pc 12 then some (.goto 4, 16, 0, 0, none, some [], []) else none)) else (bif Nat.ble 11 pc then (bif Nat.beq pc 11 then some (.iconst 1, 0, 0, 0, none, none, []) else none) else (bif Nat.beq pc 8 then some (.if_icmp .gt 7, 15, 0, 0, none, some [], []) else none))) else (bif Nat.ble 4 pc then (bif Nat.ble 5 pc then (bif Nat.beq pc 5 then some (.sipush 255, 0, 0, 0, none, none, []) else none) else (bif Nat.beq pc 4 then some (.iload_n 0, 0, 0, 0, none, none, []) else none)) else (bif Nat.ble 1 pc then (bif Nat.beq pc 1 then some (.ifCond .lt 14, 15, 0, 0, none, some [], []) else none) else (bif Nat.beq pc 0 then some (.iload_n 0, 0, 0, 0, none, none, []) else none)))
abbrev k_Jlat_indexOf_4cfef : Nat := 102
noncomputable def tb_102 (pc : Nat) : Option am_I := bif Nat.ble 18 pc then (bif Nat.ble 28 pc then (bif Nat.ble 31 pc then (bif Nat.ble 33 pc then (bif Nat.ble 36 pc then (bif Nat.beq pc 36 then some (.ireturn, 0, 0, 0, none, none, []) else none) else (bif Nat.beq pc 33 then some (.invokestatic 95, 103, 0, 238, none, none, []) else none)) else (bif Nat.ble 32 pc then (bif Nat.beq pc 32 then some (.iload_n 3, 0, 0, 0, none, none, []) else none) else (bif Nat.beq pc 31 then some (.iload_n 2, 0, 0, 0, none, none, []) else none))) else (bif Nat.ble 29 pc then (bif Nat.ble 30 pc then (bif Nat.beq pc 30 then some (.iload_n 1, 0, 0, 0, none, none, []) else none) else (bif Nat.beq pc 29 then some (.aload_n 0, 0, 0, 0, none, none, []) else none)) else (bif Nat.beq pc 28 then some (.ireturn, 0, 0, 0, none, none, []) else none))) else (bif Nat.ble 23 pc then (bif Nat.ble 24 pc then (bif Nat.ble 27 pc then (bif Nat.beq pc 27 then some (.iconst (-1), 0, 0, 0, none, none, []) else none) else (bif Nat.beq pc 24 then some (.if_icmp .lt 5, 29, 0, 0, none, some [0, 1, 2, 3], []) else none)) else (bif Nat.beq pc 23 then some (.iload_n 3, 0, 0, 0, none, none, []) else none)) else (bif Nat.ble 21 pc then (bif Nat.ble 22 pc then (bif Nat.beq pc 22 then some (.iload_n 2, 0, 0, 0, none, none, []) else none) else (bif Nat.beq pc 21 then some (.istore_n 3, 0, 0, 0, none, none, []) else none)) else (bif Nat.beq pc 18 then some (.invokestatic 38, 9002, 0, 235, none, none, []) else none)))) else (bif Nat.ble 10 pc then (bif Nat.ble 15 pc then (bif Nat.ble 16 pc then (bif Nat.ble 17 pc then (bif Nat.beq pc 17 then some (.arraylength, 0, 0, 0, none, none, []) else none) else (bif Nat.beq pc 16 then some (.aload_n 0, 0, 0, 0, none, none, []) else none)) else (bif Nat.beq pc 15 then some (.iload_n 3, 0, 0, 0, none, none, []) else none)) else (bif Nat.ble 11 pc then (bif Nat.ble 14 pc then (bif Nat.beq pc 14 then some (.istore_n 2, 0, 0, 0, none, none, []) else none) else (bif Nat.beq pc 11 then some (.invokestatic 92, 9001, 0, 232, none, none, []) else none)) else (bif Nat.beq pc 10 then some (.iconst 0, 0, 0, 0, none, none, []) else none))) else (bif Nat.ble 7 pc then (bif Nat.ble 8 pc then (bif Nat.ble 9 pc then (bif Nat.beq pc 9 then some (.iload_n 2, 0, 0, 0, none, none, []) else none) else (bif Nat.beq pc 8 then some (.ireturn, 0, 0, 0, none, none, []) else none)) else (bif Nat.beq pc 7 then some (.iconst (-1), 0, 0, 0, none, none, []) else none)) else (bif Nat.ble 1 pc then (bif Nat.ble 4 pc then (bif Nat.beq pc 4 then some (.ifCond .ne 5, 9, 0, 0, none, some [0, 1, 2, 3], []) else none) else (bif Nat.beq pc 1 then some (.invokestatic 88, 101, 0, 229, none, none, []) else none)) else (bif Nat.beq pc 0 then some (.iload_n 1, 0, 0, 0, none, none, []) else none))))
abbrev k_Jlat_indexOfChar_4cfef : Nat := 103
noncomputable def tb_103 (pc : Nat) : Option am_I := bif Nat.ble 14 pc then (bif Nat.ble 24 pc then (bif Nat.ble 28 pc then (bif Nat.ble 31 pc then (bif Nat.ble 32 pc then (bif Nat.beq pc 32 then some (.ireturn, 0, 0, 0, none, none, []) else none) else (bif Nat.beq pc 31 then some (.iconst (-1), 0, 0, 0, none, none, []) else none)) else (bif Nat.beq pc 28 then some (.goto (-21), 7, 0, 0, none, some [0, 3, 4, 5], []) else none)) else (bif Nat.ble 25 pc then (bif Nat.beq pc 25 then some (.iinc 5 1, 0, 0, 0, none, none, []) else none) else (bif Nat.beq pc 24 then some (.ireturn, 0, 0, 0, none, none, []) else none))) else (bif Nat.ble 17 pc then (bif Nat.ble 19 pc then (bif Nat.ble 22 pc then (bif Nat.beq pc 22 then some (.iload 5, 0, 0, 0, none, none, []) else none) else (bif Nat.beq pc 19 then some (.if_icmp .ne 6, 25, 0, 0, none, some [0, 3, 4, 5], []) else none)) else (bif Nat.beq pc 17 then some (.iload 4, 0, 0, 0, none, none, []) else none)) else (bif Nat.ble 16 pc then (bif Nat.beq pc 16 then some (.baload, 0, 0, 0, none, none, []) else none) else (bif Nat.beq pc 14 then some (.iload 5, 0, 0, 0, none, none, []) else none)))) else (bif Nat.ble 5 pc then (bif Nat.ble 9 pc then (bif Nat.ble 10 pc then (bif Nat.ble 13 pc then (bif Nat.beq pc 13 then some (.aload_n 0, 0, 0, 0, none, none, []) else none) else (bif Nat.beq pc 10 then some (.if_icmp .ge 21, 31, 0, 0, none, some [], []) else none)) else (bif Nat.beq pc 9 then some (.iload_n 3, 0, 0, 0, none, none, []) else none)) else (bif Nat.ble 7 pc then (bif Nat.beq pc 7 then some (.iload 5, 0, 0, 0, none, none, []) else none) else (bif Nat.beq pc 5 then some (.istore 5, 0, 0, 0, some [0, 3, 4, 5], none, []) else none))) else (bif Nat.ble 2 pc then (bif Nat.ble 4 pc then (bif Nat.beq pc 4 then some (.iload_n 2, 0, 0, 0, none, none, []) else none) else (bif Nat.beq pc 2 then some (.istore 4, 0, 0, 0, none, none, []) else none)) else (bif Nat.ble 1 pc then (bif Nat.beq pc 1 then some (.i2b, 0, 0, 0, none, none, []) else none) else (bif Nat.beq pc 0 then some (.iload_n 1, 0, 0, 0, none, none, []) else none))))
abbrev k_Jarr_copyOf_9075b : Nat := 104
noncomputable def tb_104 (pc : Nat) : Option am_I := bif Nat.ble 19 pc then (bif Nat.ble 24 pc then (bif Nat.ble 28 pc then (bif Nat.ble 31 pc then (bif Nat.ble 32 pc then (bif Nat.beq pc 32 then some (.areturn, 0, 0, 0, none, none, []) else none) else (bif Nat.beq pc 31 then some (.aload_n 2, 0, 0, 0, none, none, []) else none)) else (bif Nat.beq pc 28 then some (.invokestatic 150, 9003, 0, 20232, none, none, []) else none)) else (bif Nat.ble 25 pc then (bif Nat.beq pc 25 then some (.invokestatic 304, 9002, 0, 20231, none, none, []) else none) else (bif Nat.beq pc 24 then some (.iload_n 1, 0, 0, 0, none, none, []) else none))) else (bif Nat.ble 21 pc then (bif Nat.ble 22 pc then (bif Nat.ble 23 pc then (bif Nat.beq pc 23 then some (.arraylength, 0, 0, 0, none, none, []) else none) else (bif Nat.beq pc 22 then some (.aload_n 0, 0, 0, 0, none, none, []) else none)) else (bif Nat.beq pc 21 then some (.iconst 0, 0, 0, 0, none, none, []) else none)) else (bif Nat.ble 20 pc then (bif Nat.beq pc 20 then some (.aload_n 2, 0, 0, 0, none, none, []) else none) else (bif Nat.beq pc 19 then some (.iconst 0, 0, 0, 0, none, none, []) else none)))) else (bif Nat.ble 13 pc then (bif Nat.ble 15 pc then (bif Nat.ble 17 pc then (bif Nat.ble 18 pc then (bif Nat.beq pc 18 then some (.aload_n 0, 0, 0, 0, none, none, []) else none) else (bif Nat.beq pc 17 then some (.astore_n 2, 0, 0, 0, none, none, []) else none)) else (bif Nat.beq pc 15 then some (.newarray .byte, 0, 0, 0, none, none, []) else none)) else (bif Nat.ble 14 pc then (bif Nat.beq pc 14 then some (.iload_n 1, 0, 0, 0, none, none, []) else none) else (bif Nat.beq pc 13 then some (.areturn, 0, 0, 0, none, none, []) else none))) else (bif Nat.ble 2 pc then (bif Nat.ble 3 pc then (bif Nat.ble 6 pc then (bif Nat.beq pc 6 then some (.aload_n 0, 0, 0, 0, none, none, []) else none) else (bif Nat.beq pc 3 then some (.if_icmp .ne 11, 14, 0, 0, none, some [0, 1], []) else none)) else (bif Nat.beq pc 2 then some (.arraylength, 0, 0, 0, none, none, []) else none)) else (bif Nat.ble 1 pc then (bif Nat.beq pc 1 then some (.aload_n 0, 0, 0, 0, none, none, []) else none) else (bif Nat.beq pc 0 then some (.iload_n 1, 0, 0, 0, none, none, []) else none))))
abbrev k_Jarr_checkLength_df160 : Nat := 105
noncomputable def tb_105 (pc : Nat) : Option am_I := bif Nat.ble 12 pc then (bif Nat.ble 26 pc then (bif Nat.ble 37 pc then (bif Nat.beq pc 37 then some (.return_, 0, 0, 0, none, none, []) else none) else (bif Nat.beq pc 26 then some (.iload_n 1, 0, 0, 0, none, none, []) else none)) else (bif Nat.ble 16 pc then (bif Nat.beq pc 16 then some (.iload_n 0, 0, 0, 0, none, none, []) else none) else (bif Nat.beq pc 12 then some (.dup, 0, 0, 0, none, none, []) else none))) else (bif Nat.ble 2 pc then (bif Nat.ble 8 pc then (bif Nat.beq pc 8 then some (.dup, 0, 0, 0, none, none, []) else none) else (bif Nat.beq pc 2 then some (.if_icmp .ge 35, 37, 0, 0, none, some [], []) else none)) else (bif Nat.ble 1 pc then (bif Nat.beq pc 1 then some (.iload_n 0, 0, 0, 0, none, none, []) else none) else (bif Nat.beq pc 0 then some (.iload_n 1, 0, 0, 0, none, none, []) else none)))
abbrev k_Jarr_copyOfRange_39247 : Nat := 106
noncomputable def tb_106 (pc : Nat) : Option am_I := bif Nat.ble 10 pc then (bif Nat.ble 13 pc then (bif Nat.ble 17 pc then (bif Nat.ble 24 pc then (bif Nat.beq pc 24 then some (.areturn, 0, 0, 0, none, none, []) else none) else (bif Nat.beq pc 17 then some (.aload_n 0, 0, 0, 0, none, none, []) else none)) else (bif Nat.ble 16 pc then (bif Nat.beq pc 16 then some (.areturn, 0, 0, 0, none, none, []) else none) else (bif Nat.beq pc 13 then some (.invokestatic 339, 107, 0, 30099, none, none, []) else none))) else (bif Nat.ble 11 pc then (bif Nat.ble 12 pc then (bif Nat.beq pc 12 then some (.iload_n 2, 0, 0, 0, none, none, []) else none) else (bif Nat.beq pc 11 then some (.iload_n 1, 0, 0, 0, none, none, []) else none)) else (bif Nat.beq pc 10 then some (.aload_n 0, 0, 0, 0, none, none, []) else none))) else (bif Nat.ble 5 pc then (bif Nat.ble 6 pc then (bif Nat.ble 7 pc then (bif Nat.beq pc 7 then some (.if_icmp .eq 10, 17, 0, 0, some [0, 1, 2], some [0], []) else none) else (bif Nat.beq pc 6 then some (.arraylength, 0, 0, 0, none, none, []) else none)) else (bif Nat.beq pc 5 then some (.aload_n 0, 0, 0, 0, none, none, []) else none)) else (bif Nat.ble 1 pc then (bif Nat.ble 4 pc then (bif Nat.beq pc 4 then some (.iload_n 2, 0, 0, 0, none, none, []) else none) else (bif Nat.beq pc 1 then some (.ifCond .ne 9, 10, 0, 0, none, some [0, 1, 2], []) else none)) else (bif Nat.beq pc 0 then some (.iload_n 1, 0, 0, 0, none, none, []) else none)))
abbrev k_Jarr_copyOfRangeByte_39247 : Nat := 107
noncomputable def tb_107 (pc : Nat) : Option am_I := bif Nat.ble 15 pc then (bif Nat.ble 22 pc then (bif Nat.ble 27 pc then (bif Nat.ble 30 pc then (bif Nat.ble 32 pc then (bif Nat.beq pc 32 then some (.areturn, 0, 0, 0, none, none, []) else none) else (bif Nat.beq pc 30 then some (.aload 4, 0, 0, 0, none, none, []) else none)) else (bif Nat.beq pc 27 then some (.invokestatic 150, 9003, 0, 20232, none, none, []) else none)) else (bif Nat.ble 23 pc then (bif Nat.ble 24 pc then (bif Nat.beq pc 24 then some (.invokestatic 304, 9002, 0, 20231, none, none, []) else none) else (bif Nat.beq pc 23 then some (.iload_n 3, 0, 0, 0, none, none, []) else none)) else (bif Nat.beq pc 22 then some (.isub, 0, 0, 0, none, none, []) else none))) else (bif Nat.ble 19 pc then (bif Nat.ble 20 pc then (bif Nat.ble 21 pc then (bif Nat.beq pc 21 then some (.iload_n 1, 0, 0, 0, none, none, []) else none) else (bif Nat.beq pc 20 then some (.arraylength, 0, 0, 0, none, none, []) else none)) else (bif Nat.beq pc 19 then some (.aload_n 0, 0, 0, 0, none, none, []) else none)) else (bif Nat.ble 16 pc then (bif Nat.ble 18 pc then (bif Nat.beq pc 18 then some (.iconst 0, 0, 0, 0, none, none, []) else none) else (bif Nat.beq pc 16 then some (.aload 4, 0, 0, 0, none, none, []) else none)) else (bif Nat.beq pc 15 then some (.iload_n 1, 0, 0, 0, none, none, []) else none)))) else (bif Nat.ble 7 pc then (bif Nat.ble 10 pc then (bif Nat.ble 12 pc then (bif Nat.ble 14 pc then (bif Nat.beq pc 14 then some (.aload_n 0, 0, 0, 0, none, none, []) else none) else (bif Nat.beq pc 12 then some (.astore 4, 0, 0, 0, none, none, []) else none)) else (bif Nat.beq pc 10 then some (.newarray .byte, 0, 0, 0, none, none, []) else none)) else (bif Nat.ble 8 pc then (bif Nat.ble 9 pc then (bif Nat.beq pc 9 then some (.iload_n 3, 0, 0, 0, none, none, []) else none) else (bif Nat.beq pc 8 then some (.istore_n 3, 0, 0, 0, none, none, []) else none)) else (bif Nat.beq pc 7 then some (.isub, 0, 0, 0, none, none, []) else none))) else (bif Nat.ble 2 pc then (bif Nat.ble 5 pc then (bif Nat.ble 6 pc then (bif Nat.beq pc 6 then some (.iload_n 1, 0, 0, 0, none, none, []) else none) else (bif Nat.beq pc 5 then some (.iload_n 2, 0, 0, 0, none, none, []) else none)) else (bif Nat.beq pc 2 then some (.invokestatic 343, 105, 0, 30102, none, none, []) else none)) else (bif Nat.ble 1 pc then (bif Nat.beq pc 1 then some (.iload_n 2, 0, 0, 0, none, none, []) else none) else (bif Nat.beq pc 0 then some (.iload_n 1, 0, 0, 0, none, none, []) else none))))
abbrev k_Jas_newLength_cabcc : Nat := 108
noncomputable def tb_108 (pc : Nat) : Option am_I := bif Nat.ble 10 pc then (bif Nat.ble 19 pc then (bif Nat.ble 21 pc then (bif Nat.ble 22 pc then (bif Nat.ble 26 pc then (bif Nat.beq pc 26 then some (.ireturn, 0, 0, 0, none, none, []) else none) else (bif Nat.beq pc 22 then some (.iload_n 1, 0, 0, 0, none, none, []) else none)) else (bif Nat.beq pc 21 then some (.iload_n 0, 0, 0, 0, none, none, []) else none)) else (bif Nat.ble 20 pc then (bif Nat.beq pc 20 then some (.ireturn, 0, 0, 0, none, none, []) else none) else (bif Nat.beq pc 19 then some (.iload_n 3, 0, 0, 0, none, none, []) else none))) else (bif Nat.ble 14 pc then (bif Nat.ble 16 pc then (bif Nat.beq pc 16 then some (.if_icmp .gt 5, 21, 0, 0, none, some [0, 1], []) else none) else (bif Nat.beq pc 14 then some (.ldc 200, 2147483639, 0, 20216, none, none, []) else none)) else (bif Nat.ble 13 pc then (bif Nat.beq pc 13 then some (.iload_n 3, 0, 0, 0, none, none, []) else none) else (bif Nat.beq pc 10 then some (.if_icmp .ge 11, 21, 0, 0, none, some [0, 1], []) else none)))) else (bif Nat.ble 6 pc then (bif Nat.ble 8 pc then (bif Nat.ble 9 pc then (bif Nat.beq pc 9 then some (.iload_n 3, 0, 0, 0, none, none, []) else none) else (bif Nat.beq pc 8 then some (.iconst 0, 0, 0, 0, none, none, []) else none)) else (bif Nat.ble 7 pc then (bif Nat.beq pc 7 then some (.istore_n 3, 0, 0, 0, none, none, []) else none) else (bif Nat.beq pc 6 then some (.iadd, 0, 0, 0, none, none, []) else none))) else (bif Nat.ble 2 pc then (bif Nat.ble 3 pc then (bif Nat.beq pc 3 then some (.invokestatic 194, 9001, 0, 20215, none, none, []) else none) else (bif Nat.beq pc 2 then some (.iload_n 2, 0, 0, 0, none, none, []) else none)) else (bif Nat.ble 1 pc then (bif Nat.beq pc 1 then some (.iload_n 1, 0, 0, 0, none, none, []) else none) else (bif Nat.beq pc 0 then some (.iload_n 0, 0, 0, 0, none, none, []) else none))))
abbrev k_W_at : Nat := 109
noncomputable def tb_109 (pc : Nat) : Option am_I := bif Nat.ble 7 pc then (bif Nat.ble 9 pc then (bif Nat.ble 12 pc then (bif Nat.ble 13 pc then (bif Nat.beq pc 13 then some (.ireturn, 0, 0, 0, none, none, []) else none) else (bif Nat.beq pc 12 then some (.iconst 0, 0, 0, 0, some [], none, []) else none)) else (bif Nat.beq pc 9 then some (.goto 4, 13, 0, 0, none, some [], []) else none)) else (bif Nat.ble 8 pc then (bif Nat.beq pc 8 then some (.iaload, 0, 0, 0, none, none, []) else none) else (bif Nat.beq pc 7 then some (.iload_n 1, 0, 0, 0, none, none, []) else none))) else (bif Nat.ble 2 pc then (bif Nat.ble 3 pc then (bif Nat.ble 6 pc then (bif Nat.beq pc 6 then some (.aload_n 0, 0, 0, 0, none, none, []) else none) else (bif Nat.beq pc 3 then some (.if_icmp .ge 9, 12, 0, 0, none, some [], []) else none)) else (bif Nat.beq pc 2 then some (.arraylength, 0, 0, 0, none, none, []) else none)) else (bif Nat.ble 1 pc then (bif Nat.beq pc 1 then some (.aload_n 0, 0, 0, 0, none, none, []) else none) else (bif Nat.beq pc 0 then some (.iload_n 1, 0, 0, 0, none, none, []) else none)))
abbrev k_W_text : Nat := 110
noncomputable def tb_110 (pc : Nat) : Option am_I := bif Nat.ble 14 pc then (bif Nat.ble 21 pc then (bif Nat.ble 25 pc then (bif Nat.ble 28 pc then (bif Nat.ble 31 pc then (bif Nat.beq pc 31 then some (.return_, 0, 0, 0, none, none, []) else none) else (bif Nat.beq pc 28 then some (.goto (-26), 2, 0, 0, none, some [0, 1, 2], []) else none)) else (bif Nat.beq pc 25 then some (.iinc 2 1, 0, 0, 0, none, none, []) else none)) else (bif Nat.ble 24 pc then (bif Nat.beq pc 24 then some (.pop, 0, 0, 0, none, none, []) else none) else (bif Nat.beq pc 21 then some (.invokevirtual 17, 49, 0, 30131, none, none, []) else none))) else (bif Nat.ble 18 pc then (bif Nat.ble 19 pc then (bif Nat.ble 20 pc then (bif Nat.beq pc 20 then some (.iconst 0, 0, 0, 0, none, none, []) else none) else (bif Nat.beq pc 19 then some (.iconst 0, 0, 0, 0, none, none, []) else none)) else (bif Nat.beq pc 18 then some (.iconst 0, 0, 0, 0, none, none, []) else none)) else (bif Nat.ble 17 pc then (bif Nat.beq pc 17 then some (.iconst 0, 0, 0, 0, none, none, []) else none) else (bif Nat.beq pc 14 then some (.invokevirtual 13, 88, 0, 30130, none, none, []) else none)))) else (bif Nat.ble 7 pc then (bif Nat.ble 11 pc then (bif Nat.ble 12 pc then (bif Nat.ble 13 pc then (bif Nat.beq pc 13 then some (.iload_n 2, 0, 0, 0, none, none, []) else none) else (bif Nat.beq pc 12 then some (.aload_n 1, 0, 0, 0, none, none, []) else none)) else (bif Nat.beq pc 11 then some (.iconst 1, 0, 0, 0, none, none, []) else none)) else (bif Nat.ble 10 pc then (bif Nat.beq pc 10 then some (.aload_n 0, 0, 0, 0, none, none, []) else none) else (bif Nat.beq pc 7 then some (.if_icmp .ge 24, 31, 0, 0, none, some [], []) else none))) else (bif Nat.ble 2 pc then (bif Nat.ble 3 pc then (bif Nat.ble 4 pc then (bif Nat.beq pc 4 then some (.invokevirtual 7, 87, 0, 30129, none, none, []) else none) else (bif Nat.beq pc 3 then some (.aload_n 1, 0, 0, 0, none, none, []) else none)) else (bif Nat.beq pc 2 then some (.iload_n 2, 0, 0, 0, none, none, []) else none)) else (bif Nat.ble 1 pc then (bif Nat.beq pc 1 then some (.istore_n 2, 0, 0, 0, some [0, 1, 2], none, []) else none) else (bif Nat.beq pc 0 then some (.iconst 0, 0, 0, 0, none, none, []) else none))))
abbrev k_W_build : Nat := 111
noncomputable def tb_111 (pc : Nat) : Option am_I := bif Nat.ble 88 pc then (bif Nat.ble 139 pc then (bif Nat.ble 160 pc then (bif Nat.ble 175 pc then (bif Nat.ble 180 pc then (bif Nat.ble 184 pc then (bif Nat.ble 185 pc then (bif Nat.beq pc 185 then some (.areturn, 0, 0, 0, none, none, []) else none) else (bif Nat.beq pc 184 then some (.aload_n 1, 0, 0, 0, none, none, []) else none)) else (bif Nat.ble 183 pc then (bif Nat.beq pc 183 then some (.pop, 0, 0, 0, some [1], none, []) else none) else (bif Nat.beq pc 180 then some (.invokevirtual 102, 51, 0, 30147, none, none, []) else none))) else (bif Nat.ble 176 pc then (bif Nat.ble 177 pc then (bif Nat.beq pc 177 then some (.invokevirtual 100, 50, 0, 30139, none, none, []) else none) else (bif Nat.beq pc 176 then some (.aload_n 1, 0, 0, 0, none, none, []) else none)) else (bif Nat.beq pc 175 then some (.aload_n 1, 0, 0, 0, none, none, []) else none))) else (bif Nat.ble 166 pc then (bif Nat.ble 169 pc then (bif Nat.ble 172 pc then (bif Nat.beq pc 172 then some (.invokestatic 96, 110, 0, 30126, none, none, []) else none) else (bif Nat.beq pc 169 then some (.invokevirtual 92, 98, 0, 30069, none, none, []) else none)) else (bif Nat.beq pc 166 then some (.invokevirtual 76, 96, 0, 20193, none, none, []) else none)) else (bif Nat.ble 161 pc then (bif Nat.ble 164 pc then (bif Nat.beq pc 164 then some (.ldc 90, 6, 7, 30068, none, none, []) else none) else (bif Nat.beq pc 161 then some (.invokevirtual 83, 97, 0, 30041, none, none, []) else none)) else (bif Nat.beq pc 160 then some (.iand, 0, 0, 0, none, none, []) else none)))) else (bif Nat.ble 151 pc then (bif Nat.ble 156 pc then (bif Nat.ble 158 pc then (bif Nat.ble 159 pc then (bif Nat.beq pc 159 then some (.iconst 3, 0, 0, 0, none, none, []) else none) else (bif Nat.beq pc 158 then some (.ishr, 0, 0, 0, none, none, []) else none)) else (bif Nat.beq pc 156 then some (.bipush 12, 0, 0, 0, none, none, []) else none)) else (bif Nat.ble 152 pc then (bif Nat.ble 153 pc then (bif Nat.beq pc 153 then some (.invokestatic 80, 109, 0, 20076, none, none, []) else none) else (bif Nat.beq pc 152 then some (.iconst 0, 0, 0, 0, none, none, []) else none)) else (bif Nat.beq pc 151 then some (.aload_n 0, 0, 0, 0, none, none, []) else none))) else (bif Nat.ble 143 pc then (bif Nat.ble 146 pc then (bif Nat.ble 148 pc then (bif Nat.beq pc 148 then some (.invokevirtual 76, 96, 0, 20193, none, none, []) else none) else (bif Nat.beq pc 146 then some (.ldc 88, 5, 7, 30067, none, none, []) else none)) else (bif Nat.beq pc 143 then some (.invokevirtual 83, 97, 0, 30041, none, none, []) else none)) else (bif Nat.ble 140 pc then (bif Nat.ble 142 pc then (bif Nat.beq pc 142 then some (.iand, 0, 0, 0, none, none, []) else none) else (bif Nat.beq pc 140 then some (.bipush 7, 0, 0, 0, none, none, []) else none)) else (bif Nat.beq pc 139 then some (.ishr, 0, 0, 0, none, none, []) else none))))) else (bif Nat.ble 115 pc then (bif Nat.ble 124 pc then (bif Nat.ble 132 pc then (bif Nat.ble 134 pc then (bif Nat.ble 137 pc then (bif Nat.beq pc 137 then some (.bipush 9, 0, 0, 0, none, none, []) else none) else (bif Nat.beq pc 134 then some (.invokestatic 80, 109, 0, 20076, none, none, []) else none)) else (bif Nat.ble 133 pc then (bif Nat.beq pc 133 then some (.iconst 0, 0, 0, 0, none, none, []) else none) else (bif Nat.beq pc 132 then some (.aload_n 0, 0, 0, 0, none, none, []) else none))) else (bif Nat.ble 127 pc then (bif Nat.ble 129 pc then (bif Nat.beq pc 129 then some (.invokevirtual 76, 96, 0, 20193, none, none, []) else none) else (bif Nat.beq pc 127 then some (.ldc 86, 4, 7, 30066, none, none, []) else none)) else (bif Nat.beq pc 124 then some (.invokevirtual 83, 97, 0, 30041, none, none, []) else none))) else (bif Nat.ble 121 pc then (bif Nat.ble 122 pc then (bif Nat.ble 123 pc then (bif Nat.beq pc 123 then some (.iand, 0, 0, 0, none, none, []) else none) else (bif Nat.beq pc 122 then some (.iconst 3, 0, 0, 0, none, none, []) else none)) else (bif Nat.beq pc 121 then some (.ishr, 0, 0, 0, none, none, []) else none)) else (bif Nat.ble 116 pc then (bif Nat.ble 119 pc then (bif Nat.beq pc 119 then some (.bipush 7, 0, 0, 0, none, none, []) else none) else (bif Nat.beq pc 116 then some (.invokestatic 80, 109, 0, 20076, none, none, []) else none)) else (bif Nat.beq pc 115 then some (.iconst 0, 0, 0, 0, none, none, []) else none)))) else (bif Nat.ble 102 pc then (bif Nat.ble 109 pc then (bif Nat.ble 111 pc then (bif Nat.ble 114 pc then (bif Nat.beq pc 114 then some (.aload_n 0, 0, 0, 0, none, none, []) else none) else (bif Nat.beq pc 111 then some (.invokevirtual 76, 96, 0, 20193, none, none, []) else none)) else (bif Nat.beq pc 109 then some (.ldc 74, 3, 7, 20192, none, none, []) else none)) else (bif Nat.ble 105 pc then (bif Nat.ble 106 pc then (bif Nat.beq pc 106 then some (.invokespecial 73, 95, 0, 20164, none, none, []) else none) else (bif Nat.beq pc 105 then some (.dup, 0, 0, 0, none, none, []) else none)) else (bif Nat.beq pc 102 then some (.new 71, 7, 0, 20162, none, none, []) else none))) else (bif Nat.ble 95 pc then (bif Nat.ble 98 pc then (bif Nat.ble 101 pc then (bif Nat.beq pc 101 then some (.aload_n 1, 0, 0, 0, none, none, []) else none) else (bif Nat.beq pc 98 then some (.ifCond .ne 86, 184, 0, 0, none, some [1], []) else none)) else (bif Nat.beq pc 95 then some (.invokestatic 67, 112, 0, 20159, none, none, []) else none)) else (bif Nat.ble 91 pc then (bif Nat.ble 94 pc then (bif Nat.beq pc 94 then some (.aload_n 0, 0, 0, 0, none, none, []) else none) else (bif Nat.beq pc 91 then some (.goto (-45), 46, 0, 0, none, some [0, 1, 2], []) else none)) else (bif Nat.beq pc 88 then some (.iinc 2 1, 0, 0, 0, none, none, []) else none)))))) else (bif Nat.ble 45 pc then (bif Nat.ble 65 pc then (bif Nat.ble 75 pc then (bif Nat.ble 82 pc then (bif Nat.ble 84 pc then (bif Nat.ble 87 pc then (bif Nat.beq pc 87 then some (.pop, 0, 0, 0, some [0, 1, 2], none, []) else none) else (bif Nat.beq pc 84 then some (.invokevirtual 63, 59, 0, 10236, none, none, []) else none)) else (bif Nat.ble 83 pc then (bif Nat.beq pc 83 then some (.iload_n 2, 0, 0, 0, none, none, []) else none) else (bif Nat.beq pc 82 then some (.aload_n 1, 0, 0, 0, none, none, []) else none))) else (bif Nat.ble 76 pc then (bif Nat.ble 79 pc then (bif Nat.beq pc 79 then some (.ifCond .eq 9, 88, 0, 0, none, some [0, 1, 2], []) else none) else (bif Nat.beq pc 76 then some (.invokestatic 59, 121, 0, 20156, none, none, []) else none)) else (bif Nat.beq pc 75 then some (.iload_n 2, 0, 0, 0, none, none, []) else none))) else (bif Nat.ble 70 pc then (bif Nat.ble 73 pc then (bif Nat.ble 74 pc then (bif Nat.beq pc 74 then some (.aload_n 0, 0, 0, 0, none, none, []) else none) else (bif Nat.beq pc 73 then some (.pop, 0, 0, 0, none, none, []) else none)) else (bif Nat.beq pc 70 then some (.invokevirtual 56, 54, 0, 20137, none, none, []) else none)) else (bif Nat.ble 66 pc then (bif Nat.ble 67 pc then (bif Nat.beq pc 67 then some (.invokestatic 53, 120, 0, 20134, none, none, []) else none) else (bif Nat.beq pc 66 then some (.iload_n 2, 0, 0, 0, none, none, []) else none)) else (bif Nat.beq pc 65 then some (.aload_n 0, 0, 0, 0, none, none, []) else none)))) else (bif Nat.ble 55 pc then (bif Nat.ble 60 pc then (bif Nat.ble 61 pc then (bif Nat.ble 62 pc then (bif Nat.beq pc 62 then some (.invokestatic 50, 119, 0, 20131, none, none, []) else none) else (bif Nat.beq pc 61 then some (.iload_n 2, 0, 0, 0, none, none, []) else none)) else (bif Nat.beq pc 60 then some (.aload_n 0, 0, 0, 0, none, none, []) else none)) else (bif Nat.ble 56 pc then (bif Nat.ble 57 pc then (bif Nat.beq pc 57 then some (.invokestatic 47, 118, 0, 20128, none, none, []) else none) else (bif Nat.beq pc 56 then some (.iload_n 2, 0, 0, 0, none, none, []) else none)) else (bif Nat.beq pc 55 then some (.aload_n 0, 0, 0, 0, none, none, []) else none))) else (bif Nat.ble 48 pc then (bif Nat.ble 51 pc then (bif Nat.ble 54 pc then (bif Nat.beq pc 54 then some (.aload_n 1, 0, 0, 0, none, none, []) else none) else (bif Nat.beq pc 51 then some (.if_icmp .ge 43, 94, 0, 0, none, some [0, 1], []) else none)) else (bif Nat.beq pc 48 then some (.invokestatic 44, 114, 0, 20125, none, none, []) else none)) else (bif Nat.ble 46 pc then (bif Nat.ble 47 pc then (bif Nat.beq pc 47 then some (.aload_n 0, 0, 0, 0, none, none, []) else none) else (bif Nat.beq pc 46 then some (.iload_n 2, 0, 0, 0, none, none, []) else none)) else (bif Nat.beq pc 45 then some (.istore_n 2, 0, 0, 0, some [0, 1, 2], none, []) else none))))) else (bif Nat.ble 20 pc then (bif Nat.ble 30 pc then (bif Nat.ble 37 pc then (bif Nat.ble 41 pc then (bif Nat.ble 44 pc then (bif Nat.beq pc 44 then some (.iconst 0, 0, 0, 0, none, none, []) else none) else (bif Nat.beq pc 41 then some (.goto (-31), 10, 0, 0, none, some [0, 1, 2], []) else none)) else (bif Nat.ble 38 pc then (bif Nat.beq pc 38 then some (.iinc 2 1, 0, 0, 0, none, none, []) else none) else (bif Nat.beq pc 37 then some (.pop, 0, 0, 0, none, none, []) else none))) else (bif Nat.ble 31 pc then (bif Nat.ble 34 pc then (bif Nat.beq pc 34 then some (.invokevirtual 40, 52, 0, 20094, none, none, []) else none) else (bif Nat.beq pc 31 then some (.invokestatic 37, 117, 0, 20091, none, none, []) else none)) else (bif Nat.beq pc 30 then some (.iload_n 2, 0, 0, 0, none, none, []) else none))) else (bif Nat.ble 25 pc then (bif Nat.ble 26 pc then (bif Nat.ble 29 pc then (bif Nat.beq pc 29 then some (.aload_n 0, 0, 0, 0, none, none, []) else none) else (bif Nat.beq pc 26 then some (.invokestatic 34, 116, 0, 20088, none, none, []) else none)) else (bif Nat.beq pc 25 then some (.iload_n 2, 0, 0, 0, none, none, []) else none)) else (bif Nat.ble 21 pc then (bif Nat.ble 24 pc then (bif Nat.beq pc 24 then some (.aload_n 0, 0, 0, 0, none, none, []) else none) else (bif Nat.beq pc 21 then some (.invokestatic 30, 115, 0, 20085, none, none, []) else none)) else (bif Nat.beq pc 20 then some (.iload_n 2, 0, 0, 0, none, none, []) else none)))) else (bif Nat.ble 10 pc then (bif Nat.ble 15 pc then (bif Nat.ble 18 pc then (bif Nat.ble 19 pc then (bif Nat.beq pc 19 then some (.aload_n 0, 0, 0, 0, none, none, []) else none) else (bif Nat.beq pc 18 then some (.aload_n 1, 0, 0, 0, none, none, []) else none)) else (bif Nat.beq pc 15 then some (.if_icmp .ge 29, 44, 0, 0, none, some [0, 1], []) else none)) else (bif Nat.ble 11 pc then (bif Nat.ble 12 pc then (bif Nat.beq pc 12 then some (.invokestatic 24, 113, 0, 20082, none, none, []) else none) else (bif Nat.beq pc 11 then some (.aload_n 0, 0, 0, 0, none, none, []) else none)) else (bif Nat.beq pc 10 then some (.iload_n 2, 0, 0, 0, none, none, []) else none))) else (bif Nat.ble 7 pc then (bif Nat.ble 8 pc then (bif Nat.ble 9 pc then (bif Nat.beq pc 9 then some (.istore_n 2, 0, 0, 0, some [0, 1, 2], none, []) else none) else (bif Nat.beq pc 8 then some (.iconst 0, 0, 0, 0, none, none, []) else none)) else (bif Nat.beq pc 7 then some (.astore_n 1, 0, 0, 0, none, none, []) else none)) else (bif Nat.ble 3 pc then (bif Nat.ble 4 pc then (bif Nat.beq pc 4 then some (.invokespecial 23, 47, 0, 24, none, none, []) else none) else (bif Nat.beq pc 3 then some (.dup, 0, 0, 0, none, none, []) else none)) else (bif Nat.beq pc 0 then some (.new 18, 6, 0, 22, none, none, []) else none))))))
abbrev k_W_plain : Nat := 112
noncomputable def tb_112 (pc : Nat) : Option am_I := bif Nat.ble 8 pc then (bif Nat.ble 13 pc then (bif Nat.ble 16 pc then (bif Nat.ble 17 pc then (bif Nat.beq pc 17 then some (.ireturn, 0, 0, 0, none, none, []) else none) else (bif Nat.beq pc 16 then some (.iconst 0, 0, 0, 0, some [], none, []) else none)) else (bif Nat.beq pc 13 then some (.goto 4, 17, 0, 0, none, some [], []) else none)) else (bif Nat.ble 9 pc then (bif Nat.ble 12 pc then (bif Nat.beq pc 12 then some (.iconst 1, 0, 0, 0, none, none, []) else none) else (bif Nat.beq pc 9 then some (.ifCond .ne 7, 16, 0, 0, none, some [], []) else none)) else (bif Nat.beq pc 8 then some (.iand, 0, 0, 0, none, none, []) else none))) else (bif Nat.ble 5 pc then (bif Nat.ble 6 pc then (bif Nat.ble 7 pc then (bif Nat.beq pc 7 then some (.iconst 3, 0, 0, 0, none, none, []) else none) else (bif Nat.beq pc 6 then some (.ishr, 0, 0, 0, none, none, []) else none)) else (bif Nat.beq pc 5 then some (.iconst 5, 0, 0, 0, none, none, []) else none)) else (bif Nat.ble 1 pc then (bif Nat.ble 2 pc then (bif Nat.beq pc 2 then some (.invokestatic 80, 109, 0, 20076, none, none, []) else none) else (bif Nat.beq pc 1 then some (.iconst 0, 0, 0, 0, none, none, []) else none)) else (bif Nat.beq pc 0 then some (.aload_n 0, 0, 0, 0, none, none, []) else none)))
abbrev k_W_things : Nat := 113
noncomputable def tb_113 (pc : Nat) : Option am_I := bif Nat.ble 6 pc then (bif Nat.ble 8 pc then (bif Nat.ble 9 pc then (bif Nat.beq pc 9 then some (.ireturn, 0, 0, 0, none, none, []) else none) else (bif Nat.beq pc 8 then some (.iadd, 0, 0, 0, none, none, []) else none)) else (bif Nat.ble 7 pc then (bif Nat.beq pc 7 then some (.iand, 0, 0, 0, none, none, []) else none) else (bif Nat.beq pc 6 then some (.iconst 3, 0, 0, 0, none, none, []) else none))) else (bif Nat.ble 2 pc then (bif Nat.ble 3 pc then (bif Nat.beq pc 3 then some (.invokestatic 80, 109, 0, 20076, none, none, []) else none) else (bif Nat.beq pc 2 then some (.iconst 0, 0, 0, 0, none, none, []) else none)) else (bif Nat.ble 1 pc then (bif Nat.beq pc 1 then some (.aload_n 0, 0, 0, 0, none, none, []) else none) else (bif Nat.beq pc 0 then some (.iconst 1, 0, 0, 0, none, none, []) else none)))
abbrev k_W_locks : Nat := 114
noncomputable def tb_114 (pc : Nat) : Option am_I := bif Nat.ble 7 pc then (bif Nat.ble 10 pc then (bif Nat.ble 12 pc then (bif Nat.ble 13 pc then (bif Nat.beq pc 13 then some (.ireturn, 0, 0, 0, none, none, []) else none) else (bif Nat.beq pc 12 then some (.irem, 0, 0, 0, none, none, []) else none)) else (bif Nat.beq pc 10 then some (.bipush 6, 0, 0, 0, none, none, []) else none)) else (bif Nat.ble 9 pc then (bif Nat.beq pc 9 then some (.iand, 0, 0, 0, none, none, []) else none) else (bif Nat.beq pc 7 then some (.bipush 7, 0, 0, 0, none, none, []) else none))) else (bif Nat.ble 2 pc then (bif Nat.ble 5 pc then (bif Nat.ble 6 pc then (bif Nat.beq pc 6 then some (.ishr, 0, 0, 0, none, none, []) else none) else (bif Nat.beq pc 5 then some (.iconst 2, 0, 0, 0, none, none, []) else none)) else (bif Nat.beq pc 2 then some (.invokestatic 80, 109, 0, 20076, none, none, []) else none)) else (bif Nat.ble 1 pc then (bif Nat.beq pc 1 then some (.iconst 0, 0, 0, 0, none, none, []) else none) else (bif Nat.beq pc 0 then some (.aload_n 0, 0, 0, 0, none, none, []) else none)))
abbrev k_W_kind : Nat := 115
noncomputable def tb_115 (pc : Nat) : Option am_I := bif Nat.ble 7 pc then (bif Nat.ble 10 pc then (bif Nat.ble 12 pc then (bif Nat.ble 13 pc then (bif Nat.beq pc 13 then some (.ireturn, 0, 0, 0, none, none, []) else none) else (bif Nat.beq pc 12 then some (.irem, 0, 0, 0, none, none, []) else none)) else (bif Nat.beq pc 10 then some (.bipush 6, 0, 0, 0, none, none, []) else none)) else (bif Nat.ble 9 pc then (bif Nat.beq pc 9 then some (.iand, 0, 0, 0, none, none, []) else none) else (bif Nat.beq pc 7 then some (.bipush 7, 0, 0, 0, none, none, []) else none))) else (bif Nat.ble 2 pc then (bif Nat.ble 3 pc then (bif Nat.ble 4 pc then (bif Nat.beq pc 4 then some (.invokestatic 80, 109, 0, 20076, none, none, []) else none) else (bif Nat.beq pc 3 then some (.iadd, 0, 0, 0, none, none, []) else none)) else (bif Nat.beq pc 2 then some (.iload_n 1, 0, 0, 0, none, none, []) else none)) else (bif Nat.ble 1 pc then (bif Nat.beq pc 1 then some (.iconst 1, 0, 0, 0, none, none, []) else none) else (bif Nat.beq pc 0 then some (.aload_n 0, 0, 0, 0, none, none, []) else none)))
abbrev k_W_more : Nat := 116
noncomputable def tb_116 (pc : Nat) : Option am_I := bif Nat.ble 8 pc then (bif Nat.ble 12 pc then (bif Nat.ble 14 pc then (bif Nat.ble 15 pc then (bif Nat.beq pc 15 then some (.ireturn, 0, 0, 0, none, none, []) else none) else (bif Nat.beq pc 14 then some (.irem, 0, 0, 0, none, none, []) else none)) else (bif Nat.beq pc 12 then some (.bipush 10, 0, 0, 0, none, none, []) else none)) else (bif Nat.ble 9 pc then (bif Nat.ble 11 pc then (bif Nat.beq pc 11 then some (.iand, 0, 0, 0, none, none, []) else none) else (bif Nat.beq pc 9 then some (.bipush 15, 0, 0, 0, none, none, []) else none)) else (bif Nat.beq pc 8 then some (.ishr, 0, 0, 0, none, none, []) else none))) else (bif Nat.ble 3 pc then (bif Nat.ble 4 pc then (bif Nat.ble 7 pc then (bif Nat.beq pc 7 then some (.iconst 3, 0, 0, 0, none, none, []) else none) else (bif Nat.beq pc 4 then some (.invokestatic 80, 109, 0, 20076, none, none, []) else none)) else (bif Nat.beq pc 3 then some (.iadd, 0, 0, 0, none, none, []) else none)) else (bif Nat.ble 1 pc then (bif Nat.ble 2 pc then (bif Nat.beq pc 2 then some (.iload_n 1, 0, 0, 0, none, none, []) else none) else (bif Nat.beq pc 1 then some (.iconst 1, 0, 0, 0, none, none, []) else none)) else (bif Nat.beq pc 0 then some (.aload_n 0, 0, 0, 0, none, none, []) else none)))
abbrev k_W_come : Nat := 117
noncomputable def tb_117 (pc : Nat) : Option am_I := bif Nat.ble 9 pc then (bif Nat.ble 13 pc then (bif Nat.ble 15 pc then (bif Nat.ble 16 pc then (bif Nat.beq pc 16 then some (.ireturn, 0, 0, 0, none, none, []) else none) else (bif Nat.beq pc 15 then some (.irem, 0, 0, 0, none, none, []) else none)) else (bif Nat.beq pc 13 then some (.bipush 24, 0, 0, 0, none, none, []) else none)) else (bif Nat.ble 10 pc then (bif Nat.ble 12 pc then (bif Nat.beq pc 12 then some (.iand, 0, 0, 0, none, none, []) else none) else (bif Nat.beq pc 10 then some (.bipush 31, 0, 0, 0, none, none, []) else none)) else (bif Nat.beq pc 9 then some (.ishr, 0, 0, 0, none, none, []) else none))) else (bif Nat.ble 3 pc then (bif Nat.ble 4 pc then (bif Nat.ble 7 pc then (bif Nat.beq pc 7 then some (.bipush 7, 0, 0, 0, none, none, []) else none) else (bif Nat.beq pc 4 then some (.invokestatic 80, 109, 0, 20076, none, none, []) else none)) else (bif Nat.beq pc 3 then some (.iadd, 0, 0, 0, none, none, []) else none)) else (bif Nat.ble 1 pc then (bif Nat.ble 2 pc then (bif Nat.beq pc 2 then some (.iload_n 1, 0, 0, 0, none, none, []) else none) else (bif Nat.beq pc 1 then some (.iconst 1, 0, 0, 0, none, none, []) else none)) else (bif Nat.beq pc 0 then some (.aload_n 0, 0, 0, 0, none, none, []) else none)))
abbrev k_W_owner : Nat := 118
noncomputable def tb_118 (pc : Nat) : Option am_I := bif Nat.ble 7 pc then (bif Nat.ble 10 pc then (bif Nat.ble 13 pc then (bif Nat.ble 14 pc then (bif Nat.beq pc 14 then some (.ireturn, 0, 0, 0, none, none, []) else none) else (bif Nat.beq pc 13 then some (.irem, 0, 0, 0, none, none, []) else none)) else (bif Nat.beq pc 10 then some (.invokestatic 24, 113, 0, 20082, none, none, []) else none)) else (bif Nat.ble 8 pc then (bif Nat.ble 9 pc then (bif Nat.beq pc 9 then some (.aload_n 0, 0, 0, 0, none, none, []) else none) else (bif Nat.beq pc 8 then some (.iand, 0, 0, 0, none, none, []) else none)) else (bif Nat.beq pc 7 then some (.iconst 3, 0, 0, 0, none, none, []) else none))) else (bif Nat.ble 2 pc then (bif Nat.ble 3 pc then (bif Nat.ble 4 pc then (bif Nat.beq pc 4 then some (.invokestatic 80, 109, 0, 20076, none, none, []) else none) else (bif Nat.beq pc 3 then some (.iadd, 0, 0, 0, none, none, []) else none)) else (bif Nat.beq pc 2 then some (.iload_n 1, 0, 0, 0, none, none, []) else none)) else (bif Nat.ble 1 pc then (bif Nat.beq pc 1 then some (.iconst 5, 0, 0, 0, none, none, []) else none) else (bif Nat.beq pc 0 then some (.aload_n 0, 0, 0, 0, none, none, []) else none)))
abbrev k_W_sort : Nat := 119
noncomputable def tb_119 (pc : Nat) : Option am_I := bif Nat.ble 8 pc then (bif Nat.ble 11 pc then (bif Nat.ble 12 pc then (bif Nat.ble 13 pc then (bif Nat.beq pc 13 then some (.ireturn, 0, 0, 0, none, none, []) else none) else (bif Nat.beq pc 12 then some (.irem, 0, 0, 0, none, none, []) else none)) else (bif Nat.beq pc 11 then some (.iconst 3, 0, 0, 0, none, none, []) else none)) else (bif Nat.ble 9 pc then (bif Nat.ble 10 pc then (bif Nat.beq pc 10 then some (.iand, 0, 0, 0, none, none, []) else none) else (bif Nat.beq pc 9 then some (.iconst 3, 0, 0, 0, none, none, []) else none)) else (bif Nat.beq pc 8 then some (.ishr, 0, 0, 0, none, none, []) else none))) else (bif Nat.ble 3 pc then (bif Nat.ble 4 pc then (bif Nat.ble 7 pc then (bif Nat.beq pc 7 then some (.iconst 2, 0, 0, 0, none, none, []) else none) else (bif Nat.beq pc 4 then some (.invokestatic 80, 109, 0, 20076, none, none, []) else none)) else (bif Nat.beq pc 3 then some (.iadd, 0, 0, 0, none, none, []) else none)) else (bif Nat.ble 1 pc then (bif Nat.ble 2 pc then (bif Nat.beq pc 2 then some (.iload_n 1, 0, 0, 0, none, none, []) else none) else (bif Nat.beq pc 1 then some (.iconst 5, 0, 0, 0, none, none, []) else none)) else (bif Nat.beq pc 0 then some (.aload_n 0, 0, 0, 0, none, none, []) else none)))
abbrev k_W_through : Nat := 120
noncomputable def tb_120 (pc : Nat) : Option am_I := bif Nat.ble 20 pc then (bif Nat.ble 32 pc then (bif Nat.ble 36 pc then (bif Nat.ble 40 pc then (bif Nat.ble 43 pc then (bif Nat.ble 44 pc then (bif Nat.beq pc 44 then some (.ireturn, 0, 0, 0, none, none, []) else none) else (bif Nat.beq pc 43 then some (.iload_n 2, 0, 0, 0, some [], none, []) else none)) else (bif Nat.beq pc 40 then some (.goto 4, 44, 0, 0, none, some [], []) else none)) else (bif Nat.ble 39 pc then (bif Nat.beq pc 39 then some (.iconst 1, 0, 0, 0, none, none, []) else none) else (bif Nat.beq pc 36 then some (.ifCond .ne 7, 43, 0, 0, none, some [2], []) else none))) else (bif Nat.ble 34 pc then (bif Nat.ble 35 pc then (bif Nat.beq pc 35 then some (.iload_n 2, 0, 0, 0, none, none, []) else none) else (bif Nat.beq pc 34 then some (.istore_n 2, 0, 0, 0, none, none, []) else none)) else (bif Nat.ble 33 pc then (bif Nat.beq pc 33 then some (.ior, 0, 0, 0, none, none, []) else none) else (bif Nat.beq pc 32 then some (.ishl, 0, 0, 0, none, none, []) else none)))) else (bif Nat.ble 27 pc then (bif Nat.ble 29 pc then (bif Nat.ble 30 pc then (bif Nat.beq pc 30 then some (.bipush 8, 0, 0, 0, none, none, []) else none) else (bif Nat.beq pc 29 then some (.iand, 0, 0, 0, none, none, []) else none)) else (bif Nat.ble 28 pc then (bif Nat.beq pc 28 then some (.iconst 1, 0, 0, 0, none, none, []) else none) else (bif Nat.beq pc 27 then some (.ishr, 0, 0, 0, none, none, []) else none))) else (bif Nat.ble 22 pc then (bif Nat.ble 25 pc then (bif Nat.beq pc 25 then some (.bipush 8, 0, 0, 0, none, none, []) else none) else (bif Nat.beq pc 22 then some (.invokestatic 80, 109, 0, 20076, none, none, []) else none)) else (bif Nat.ble 21 pc then (bif Nat.beq pc 21 then some (.iadd, 0, 0, 0, none, none, []) else none) else (bif Nat.beq pc 20 then some (.iload_n 1, 0, 0, 0, none, none, []) else none))))) else (bif Nat.ble 10 pc then (bif Nat.ble 16 pc then (bif Nat.ble 18 pc then (bif Nat.ble 19 pc then (bif Nat.beq pc 19 then some (.iconst 5, 0, 0, 0, none, none, []) else none) else (bif Nat.beq pc 18 then some (.aload_n 0, 0, 0, 0, none, none, []) else none)) else (bif Nat.ble 17 pc then (bif Nat.beq pc 17 then some (.iand, 0, 0, 0, none, none, []) else none) else (bif Nat.beq pc 16 then some (.isub, 0, 0, 0, none, none, []) else none))) else (bif Nat.ble 14 pc then (bif Nat.ble 15 pc then (bif Nat.beq pc 15 then some (.iconst 1, 0, 0, 0, none, none, []) else none) else (bif Nat.beq pc 14 then some (.ishl, 0, 0, 0, none, none, []) else none)) else (bif Nat.ble 11 pc then (bif Nat.beq pc 11 then some (.invokestatic 24, 113, 0, 20082, none, none, []) else none) else (bif Nat.beq pc 10 then some (.aload_n 0, 0, 0, 0, none, none, []) else none)))) else (bif Nat.ble 4 pc then (bif Nat.ble 8 pc then (bif Nat.ble 9 pc then (bif Nat.beq pc 9 then some (.iconst 1, 0, 0, 0, none, none, []) else none) else (bif Nat.beq pc 8 then some (.ishr, 0, 0, 0, none, none, []) else none)) else (bif Nat.ble 7 pc then (bif Nat.beq pc 7 then some (.iconst 4, 0, 0, 0, none, none, []) else none) else (bif Nat.beq pc 4 then some (.invokestatic 80, 109, 0, 20076, none, none, []) else none))) else (bif Nat.ble 2 pc then (bif Nat.ble 3 pc then (bif Nat.beq pc 3 then some (.iadd, 0, 0, 0, none, none, []) else none) else (bif Nat.beq pc 2 then some (.iload_n 1, 0, 0, 0, none, none, []) else none)) else (bif Nat.ble 1 pc then (bif Nat.beq pc 1 then some (.iconst 5, 0, 0, 0, none, none, []) else none) else (bif Nat.beq pc 0 then some (.aload_n 0, 0, 0, 0, none, none, []) else none)))))
abbrev k_W_sawn : Nat := 121
noncomputable def tb_121 (pc : Nat) : Option am_I := bif Nat.ble 10 pc then (bif Nat.ble 18 pc then (bif Nat.ble 22 pc then (bif Nat.ble 23 pc then (bif Nat.beq pc 23 then some (.ireturn, 0, 0, 0, none, none, []) else none) else (bif Nat.beq pc 22 then some (.iconst 0, 0, 0, 0, some [], none, []) else none)) else (bif Nat.ble 19 pc then (bif Nat.beq pc 19 then some (.goto 4, 23, 0, 0, none, some [], []) else none) else (bif Nat.beq pc 18 then some (.iconst 1, 0, 0, 0, none, none, []) else none))) else (bif Nat.ble 13 pc then (bif Nat.ble 15 pc then (bif Nat.beq pc 15 then some (.if_icmp .ne 7, 22, 0, 0, none, some [], []) else none) else (bif Nat.beq pc 13 then some (.bipush 7, 0, 0, 0, none, none, []) else none)) else (bif Nat.ble 12 pc then (bif Nat.beq pc 12 then some (.iand, 0, 0, 0, none, none, []) else none) else (bif Nat.beq pc 10 then some (.bipush 7, 0, 0, 0, none, none, []) else none)))) else (bif Nat.ble 3 pc then (bif Nat.ble 7 pc then (bif Nat.ble 9 pc then (bif Nat.beq pc 9 then some (.ishr, 0, 0, 0, none, none, []) else none) else (bif Nat.beq pc 7 then some (.bipush 9, 0, 0, 0, none, none, []) else none)) else (bif Nat.ble 4 pc then (bif Nat.beq pc 4 then some (.invokestatic 80, 109, 0, 20076, none, none, []) else none) else (bif Nat.beq pc 3 then some (.iadd, 0, 0, 0, none, none, []) else none))) else (bif Nat.ble 1 pc then (bif Nat.ble 2 pc then (bif Nat.beq pc 2 then some (.iload_n 1, 0, 0, 0, none, none, []) else none) else (bif Nat.beq pc 1 then some (.iconst 5, 0, 0, 0, none, none, []) else none)) else (bif Nat.beq pc 0 then some (.aload_n 0, 0, 0, 0, none, none, []) else none)))
abbrev k_W_held : Nat := 122
noncomputable def tb_122 (pc : Nat) : Option am_I := bif Nat.ble 3 pc then (bif Nat.ble 6 pc then (bif Nat.ble 9 pc then (bif Nat.beq pc 9 then some (.ireturn, 0, 0, 0, none, none, []) else none) else (bif Nat.beq pc 6 then some (.invokestatic 111, 9001, 0, 30159, none, none, []) else none)) else (bif Nat.beq pc 3 then some (.invokestatic 105, 9002, 0, 30158, none, none, []) else none)) else (bif Nat.ble 1 pc then (bif Nat.ble 2 pc then (bif Nat.beq pc 2 then some (.iload_n 0, 0, 0, 0, none, none, []) else none) else (bif Nat.beq pc 1 then some (.iload_n 2, 0, 0, 0, none, none, []) else none)) else (bif Nat.beq pc 0 then some (.iload_n 1, 0, 0, 0, none, none, []) else none))
abbrev k_W_saws : Nat := 123
noncomputable def tb_123 (pc : Nat) : Option am_I := bif Nat.ble 25 pc then (bif Nat.ble 38 pc then (bif Nat.ble 42 pc then (bif Nat.ble 45 pc then (bif Nat.ble 48 pc then (bif Nat.beq pc 48 then some (.ireturn, 0, 0, 0, none, none, []) else none) else (bif Nat.beq pc 45 then some (.invokestatic 114, 122, 0, 30155, some [], none, []) else none)) else (bif Nat.ble 43 pc then (bif Nat.beq pc 43 then some (.bipush 99, 0, 0, 0, none, none, []) else none) else (bif Nat.beq pc 42 then some (.iconst 0, 0, 0, 0, none, none, []) else none))) else (bif Nat.ble 40 pc then (bif Nat.ble 41 pc then (bif Nat.beq pc 41 then some (.iadd, 0, 0, 0, none, none, []) else none) else (bif Nat.beq pc 40 then some (.iload_n 1, 0, 0, 0, none, none, []) else none)) else (bif Nat.ble 39 pc then (bif Nat.beq pc 39 then some (.imul, 0, 0, 0, none, none, []) else none) else (bif Nat.beq pc 38 then some (.iand, 0, 0, 0, none, none, []) else none)))) else (bif Nat.ble 30 pc then (bif Nat.ble 35 pc then (bif Nat.ble 36 pc then (bif Nat.beq pc 36 then some (.bipush 7, 0, 0, 0, none, none, []) else none) else (bif Nat.beq pc 35 then some (.ishr, 0, 0, 0, none, none, []) else none)) else (bif Nat.ble 33 pc then (bif Nat.beq pc 33 then some (.bipush 9, 0, 0, 0, none, none, []) else none) else (bif Nat.beq pc 30 then some (.invokestatic 80, 109, 0, 20076, none, none, []) else none))) else (bif Nat.ble 28 pc then (bif Nat.ble 29 pc then (bif Nat.beq pc 29 then some (.iconst 0, 0, 0, 0, none, none, []) else none) else (bif Nat.beq pc 28 then some (.aload_n 0, 0, 0, 0, none, none, []) else none)) else (bif Nat.beq pc 25 then some (.invokestatic 117, 84, 0, 30154, none, none, []) else none)))) else (bif Nat.ble 12 pc then (bif Nat.ble 17 pc then (bif Nat.ble 21 pc then (bif Nat.ble 22 pc then (bif Nat.beq pc 22 then some (.invokestatic 53, 120, 0, 20134, none, none, []) else none) else (bif Nat.beq pc 21 then some (.iload_n 2, 0, 0, 0, none, none, []) else none)) else (bif Nat.ble 20 pc then (bif Nat.beq pc 20 then some (.aload_n 0, 0, 0, 0, none, none, []) else none) else (bif Nat.beq pc 17 then some (.goto 31, 48, 0, 0, none, some [], []) else none))) else (bif Nat.ble 15 pc then (bif Nat.ble 16 pc then (bif Nat.beq pc 16 then some (.iadd, 0, 0, 0, none, none, []) else none) else (bif Nat.beq pc 15 then some (.imul, 0, 0, 0, none, none, []) else none)) else (bif Nat.beq pc 12 then some (.invokestatic 50, 119, 0, 20131, none, none, []) else none))) else (bif Nat.ble 7 pc then (bif Nat.ble 10 pc then (bif Nat.ble 11 pc then (bif Nat.beq pc 11 then some (.iload_n 2, 0, 0, 0, none, none, []) else none) else (bif Nat.beq pc 10 then some (.aload_n 0, 0, 0, 0, none, none, []) else none)) else (bif Nat.ble 9 pc then (bif Nat.beq pc 9 then some (.iconst 5, 0, 0, 0, none, none, []) else none) else (bif Nat.beq pc 7 then some (.bipush 10, 0, 0, 0, none, none, []) else none))) else (bif Nat.ble 1 pc then (bif Nat.ble 4 pc then (bif Nat.beq pc 4 then some (.ifCond .eq 16, 20, 0, 0, none, some [0, 1, 2], []) else none) else (bif Nat.beq pc 1 then some (.invokestatic 67, 112, 0, 20159, none, none, []) else none)) else (bif Nat.beq pc 0 then some (.aload_n 0, 0, 0, 0, none, none, []) else none))))
abbrev k_W_start : Nat := 124
noncomputable def tb_124 (pc : Nat) : Option am_I := bif Nat.ble 64 pc then (bif Nat.ble 94 pc then (bif Nat.ble 109 pc then (bif Nat.ble 118 pc then (bif Nat.ble 124 pc then (bif Nat.ble 125 pc then (bif Nat.ble 126 pc then (bif Nat.beq pc 126 then some (.return_, 0, 0, 0, none, none, []) else none) else (bif Nat.beq pc 125 then some (.lastore, 0, 0, 0, none, none, []) else none)) else (bif Nat.beq pc 124 then some (.i2l, 0, 0, 0, none, none, []) else none)) else (bif Nat.ble 120 pc then (bif Nat.ble 121 pc then (bif Nat.beq pc 121 then some (.invokestatic 44, 114, 0, 20125, none, none, []) else none) else (bif Nat.beq pc 120 then some (.aload_n 0, 0, 0, 0, none, none, []) else none)) else (bif Nat.beq pc 118 then some (.bipush 10, 0, 0, 0, none, none, []) else none))) else (bif Nat.ble 111 pc then (bif Nat.ble 114 pc then (bif Nat.ble 117 pc then (bif Nat.beq pc 117 then some (.aload_n 1, 0, 0, 0, none, none, []) else none) else (bif Nat.beq pc 114 then some (.goto (-77), 37, 0, 0, none, some [0, 1, 2], []) else none)) else (bif Nat.beq pc 111 then some (.iinc 2 1, 0, 0, 0, none, none, []) else none)) else (bif Nat.ble 110 pc then (bif Nat.beq pc 110 then some (.lastore, 0, 0, 0, none, none, []) else none) else (bif Nat.beq pc 109 then some (.i2l, 0, 0, 0, none, none, []) else none)))) else (bif Nat.ble 101 pc then (bif Nat.ble 104 pc then (bif Nat.ble 105 pc then (bif Nat.ble 106 pc then (bif Nat.beq pc 106 then some (.invokestatic 53, 120, 0, 20134, none, none, []) else none) else (bif Nat.beq pc 105 then some (.iload_n 2, 0, 0, 0, none, none, []) else none)) else (bif Nat.beq pc 104 then some (.aload_n 0, 0, 0, 0, none, none, []) else none)) else (bif Nat.ble 102 pc then (bif Nat.ble 103 pc then (bif Nat.beq pc 103 then some (.iadd, 0, 0, 0, none, none, []) else none) else (bif Nat.beq pc 102 then some (.imul, 0, 0, 0, none, none, []) else none)) else (bif Nat.beq pc 101 then some (.iload_n 2, 0, 0, 0, none, none, []) else none))) else (bif Nat.ble 96 pc then (bif Nat.ble 97 pc then (bif Nat.ble 99 pc then (bif Nat.beq pc 99 then some (.bipush 10, 0, 0, 0, none, none, []) else none) else (bif Nat.beq pc 97 then some (.bipush 22, 0, 0, 0, none, none, []) else none)) else (bif Nat.beq pc 96 then some (.aload_n 1, 0, 0, 0, none, none, []) else none)) else (bif Nat.ble 95 pc then (bif Nat.beq pc 95 then some (.lastore, 0, 0, 0, none, none, []) else none) else (bif Nat.beq pc 94 then some (.i2l, 0, 0, 0, none, none, []) else none))))) else (bif Nat.ble 79 pc then (bif Nat.ble 86 pc then (bif Nat.ble 89 pc then (bif Nat.ble 90 pc then (bif Nat.ble 91 pc then (bif Nat.beq pc 91 then some (.invokestatic 50, 119, 0, 20131, none, none, []) else none) else (bif Nat.beq pc 90 then some (.iload_n 2, 0, 0, 0, none, none, []) else none)) else (bif Nat.beq pc 89 then some (.aload_n 0, 0, 0, 0, none, none, []) else none)) else (bif Nat.ble 87 pc then (bif Nat.ble 88 pc then (bif Nat.beq pc 88 then some (.iadd, 0, 0, 0, none, none, []) else none) else (bif Nat.beq pc 87 then some (.imul, 0, 0, 0, none, none, []) else none)) else (bif Nat.beq pc 86 then some (.iload_n 2, 0, 0, 0, none, none, []) else none))) else (bif Nat.ble 81 pc then (bif Nat.ble 82 pc then (bif Nat.ble 84 pc then (bif Nat.beq pc 84 then some (.bipush 10, 0, 0, 0, none, none, []) else none) else (bif Nat.beq pc 82 then some (.bipush 21, 0, 0, 0, none, none, []) else none)) else (bif Nat.beq pc 81 then some (.aload_n 1, 0, 0, 0, none, none, []) else none)) else (bif Nat.ble 80 pc then (bif Nat.beq pc 80 then some (.lastore, 0, 0, 0, none, none, []) else none) else (bif Nat.beq pc 79 then some (.i2l, 0, 0, 0, none, none, []) else none)))) else (bif Nat.ble 71 pc then (bif Nat.ble 74 pc then (bif Nat.ble 75 pc then (bif Nat.ble 76 pc then (bif Nat.beq pc 76 then some (.invokestatic 47, 118, 0, 20128, none, none, []) else none) else (bif Nat.beq pc 75 then some (.iload_n 2, 0, 0, 0, none, none, []) else none)) else (bif Nat.beq pc 74 then some (.aload_n 0, 0, 0, 0, none, none, []) else none)) else (bif Nat.ble 72 pc then (bif Nat.ble 73 pc then (bif Nat.beq pc 73 then some (.iadd, 0, 0, 0, none, none, []) else none) else (bif Nat.beq pc 72 then some (.imul, 0, 0, 0, none, none, []) else none)) else (bif Nat.beq pc 71 then some (.iload_n 2, 0, 0, 0, none, none, []) else none))) else (bif Nat.ble 66 pc then (bif Nat.ble 67 pc then (bif Nat.ble 69 pc then (bif Nat.beq pc 69 then some (.bipush 10, 0, 0, 0, none, none, []) else none) else (bif Nat.beq pc 67 then some (.bipush 20, 0, 0, 0, none, none, []) else none)) else (bif Nat.beq pc 66 then some (.aload_n 1, 0, 0, 0, none, none, []) else none)) else (bif Nat.ble 65 pc then (bif Nat.beq pc 65 then some (.lastore, 0, 0, 0, none, none, []) else none) else (bif Nat.beq pc 64 then some (.lor, 0, 0, 0, none, none, []) else none)))))) else (bif Nat.ble 28 pc then (bif Nat.ble 47 pc then (bif Nat.ble 54 pc then (bif Nat.ble 59 pc then (bif Nat.ble 60 pc then (bif Nat.ble 63 pc then (bif Nat.beq pc 63 then some (.lconst 0, 0, 0, 0, some [0, 1, 2], none, []) else none) else (bif Nat.beq pc 60 then some (.goto 4, 64, 0, 0, none, some [0, 1, 2], []) else none)) else (bif Nat.beq pc 59 then some (.lshl, 0, 0, 0, none, none, []) else none)) else (bif Nat.ble 57 pc then (bif Nat.ble 58 pc then (bif Nat.beq pc 58 then some (.iload_n 2, 0, 0, 0, none, none, []) else none) else (bif Nat.beq pc 57 then some (.lconst 1, 0, 0, 0, none, none, []) else none)) else (bif Nat.beq pc 54 then some (.ifCond .eq 9, 63, 0, 0, none, some [0, 1, 2], []) else none))) else (bif Nat.ble 49 pc then (bif Nat.ble 50 pc then (bif Nat.ble 51 pc then (bif Nat.beq pc 51 then some (.invokestatic 59, 121, 0, 20156, none, none, []) else none) else (bif Nat.beq pc 50 then some (.iload_n 2, 0, 0, 0, none, none, []) else none)) else (bif Nat.beq pc 49 then some (.aload_n 0, 0, 0, 0, none, none, []) else none)) else (bif Nat.ble 48 pc then (bif Nat.beq pc 48 then some (.laload, 0, 0, 0, none, none, []) else none) else (bif Nat.beq pc 47 then some (.dup2, 0, 0, 0, none, none, []) else none)))) else (bif Nat.ble 37 pc then (bif Nat.ble 42 pc then (bif Nat.ble 45 pc then (bif Nat.ble 46 pc then (bif Nat.beq pc 46 then some (.iconst 1, 0, 0, 0, none, none, []) else none) else (bif Nat.beq pc 45 then some (.aload_n 1, 0, 0, 0, none, none, []) else none)) else (bif Nat.beq pc 42 then some (.if_icmp .ge 75, 117, 0, 0, none, some [0, 1], []) else none)) else (bif Nat.ble 38 pc then (bif Nat.ble 39 pc then (bif Nat.beq pc 39 then some (.invokestatic 44, 114, 0, 20125, none, none, []) else none) else (bif Nat.beq pc 38 then some (.aload_n 0, 0, 0, 0, none, none, []) else none)) else (bif Nat.beq pc 37 then some (.iload_n 2, 0, 0, 0, none, none, []) else none))) else (bif Nat.ble 32 pc then (bif Nat.ble 35 pc then (bif Nat.ble 36 pc then (bif Nat.beq pc 36 then some (.istore_n 2, 0, 0, 0, some [0, 1, 2], none, []) else none) else (bif Nat.beq pc 35 then some (.iconst 0, 0, 0, 0, none, none, []) else none)) else (bif Nat.beq pc 32 then some (.goto (-22), 10, 0, 0, none, some [0, 1, 2], []) else none)) else (bif Nat.ble 29 pc then (bif Nat.beq pc 29 then some (.iinc 2 1, 0, 0, 0, none, none, []) else none) else (bif Nat.beq pc 28 then some (.lastore, 0, 0, 0, none, none, []) else none))))) else (bif Nat.ble 11 pc then (bif Nat.ble 20 pc then (bif Nat.ble 23 pc then (bif Nat.ble 24 pc then (bif Nat.ble 27 pc then (bif Nat.beq pc 27 then some (.i2l, 0, 0, 0, none, none, []) else none) else (bif Nat.beq pc 24 then some (.invokestatic 37, 117, 0, 20091, none, none, []) else none)) else (bif Nat.beq pc 23 then some (.iload_n 2, 0, 0, 0, none, none, []) else none)) else (bif Nat.ble 21 pc then (bif Nat.ble 22 pc then (bif Nat.beq pc 22 then some (.aload_n 0, 0, 0, 0, none, none, []) else none) else (bif Nat.beq pc 21 then some (.iadd, 0, 0, 0, none, none, []) else none)) else (bif Nat.beq pc 20 then some (.iload_n 2, 0, 0, 0, none, none, []) else none))) else (bif Nat.ble 15 pc then (bif Nat.ble 18 pc then (bif Nat.ble 19 pc then (bif Nat.beq pc 19 then some (.iconst 2, 0, 0, 0, none, none, []) else none) else (bif Nat.beq pc 18 then some (.aload_n 1, 0, 0, 0, none, none, []) else none)) else (bif Nat.beq pc 15 then some (.if_icmp .ge 20, 35, 0, 0, none, some [0, 1], []) else none)) else (bif Nat.ble 12 pc then (bif Nat.beq pc 12 then some (.invokestatic 24, 113, 0, 20082, none, none, []) else none) else (bif Nat.beq pc 11 then some (.aload_n 0, 0, 0, 0, none, none, []) else none)))) else (bif Nat.ble 5 pc then (bif Nat.ble 8 pc then (bif Nat.ble 9 pc then (bif Nat.ble 10 pc then (bif Nat.beq pc 10 then some (.iload_n 2, 0, 0, 0, none, none, []) else none) else (bif Nat.beq pc 9 then some (.istore_n 2, 0, 0, 0, some [0, 1, 2], none, []) else none)) else (bif Nat.beq pc 8 then some (.iconst 0, 0, 0, 0, none, none, []) else none)) else (bif Nat.ble 6 pc then (bif Nat.ble 7 pc then (bif Nat.beq pc 7 then some (.lastore, 0, 0, 0, none, none, []) else none) else (bif Nat.beq pc 6 then some (.lconst 0, 0, 0, 0, none, none, []) else none)) else (bif Nat.beq pc 5 then some (.iconst 1, 0, 0, 0, none, none, []) else none))) else (bif Nat.ble 2 pc then (bif Nat.ble 3 pc then (bif Nat.ble 4 pc then (bif Nat.beq pc 4 then some (.aload_n 1, 0, 0, 0, none, none, []) else none) else (bif Nat.beq pc 3 then some (.lastore, 0, 0, 0, none, none, []) else none)) else (bif Nat.beq pc 2 then some (.lconst 0, 0, 0, 0, none, none, []) else none)) else (bif Nat.ble 1 pc then (bif Nat.beq pc 1 then some (.iconst 0, 0, 0, 0, none, none, []) else none) else (bif Nat.beq pc 0 then some (.aload_n 1, 0, 0, 0, none, none, []) else none))))))
abbrev k_W_fix : Nat := 125
noncomputable def tb_125 (pc : Nat) : Option am_I := bif Nat.ble 70 pc then (bif Nat.ble 109 pc then (bif Nat.ble 126 pc then (bif Nat.ble 135 pc then (bif Nat.ble 140 pc then (bif Nat.ble 144 pc then (bif Nat.ble 145 pc then (bif Nat.beq pc 145 then some (.ireturn, 0, 0, 0, none, none, []) else none) else (bif Nat.beq pc 144 then some (.iconst 0, 0, 0, 0, some [], none, []) else none)) else (bif Nat.ble 141 pc then (bif Nat.beq pc 141 then some (.goto 4, 145, 0, 0, none, some [], []) else none) else (bif Nat.beq pc 140 then some (.iconst 1, 0, 0, 0, none, none, []) else none))) else (bif Nat.ble 136 pc then (bif Nat.ble 137 pc then (bif Nat.beq pc 137 then some (.ifCond .eq 7, 144, 0, 0, none, some [], []) else none) else (bif Nat.beq pc 136 then some (.lcmp, 0, 0, 0, none, none, []) else none)) else (bif Nat.beq pc 135 then some (.lconst 0, 0, 0, 0, none, none, []) else none))) else (bif Nat.ble 129 pc then (bif Nat.ble 133 pc then (bif Nat.ble 134 pc then (bif Nat.beq pc 134 then some (.land, 0, 0, 0, none, none, []) else none) else (bif Nat.beq pc 133 then some (.lxor, 0, 0, 0, none, none, []) else none)) else (bif Nat.ble 130 pc then (bif Nat.beq pc 130 then some (.ldc2_w 124, 1, 2, 30170, none, none, []) else none) else (bif Nat.beq pc 129 then some (.lshl, 0, 0, 0, none, none, []) else none))) else (bif Nat.ble 127 pc then (bif Nat.ble 128 pc then (bif Nat.beq pc 128 then some (.iload_n 3, 0, 0, 0, none, none, []) else none) else (bif Nat.beq pc 127 then some (.lconst 1, 0, 0, 0, none, none, []) else none)) else (bif Nat.beq pc 126 then some (.land, 0, 0, 0, none, none, []) else none)))) else (bif Nat.ble 117 pc then (bif Nat.ble 120 pc then (bif Nat.ble 122 pc then (bif Nat.ble 125 pc then (bif Nat.beq pc 125 then some (.lxor, 0, 0, 0, none, none, []) else none) else (bif Nat.beq pc 122 then some (.ldc2_w 124, 1, 2, 30170, none, none, []) else none)) else (bif Nat.ble 121 pc then (bif Nat.beq pc 121 then some (.laload, 0, 0, 0, none, none, []) else none) else (bif Nat.beq pc 120 then some (.iconst 0, 0, 0, 0, none, none, []) else none))) else (bif Nat.ble 118 pc then (bif Nat.ble 119 pc then (bif Nat.beq pc 119 then some (.aload_n 1, 0, 0, 0, none, none, []) else none) else (bif Nat.beq pc 118 then some (.laload, 0, 0, 0, none, none, []) else none)) else (bif Nat.beq pc 117 then some (.iadd, 0, 0, 0, none, none, []) else none))) else (bif Nat.ble 113 pc then (bif Nat.ble 115 pc then (bif Nat.ble 116 pc then (bif Nat.beq pc 116 then some (.imul, 0, 0, 0, none, none, []) else none) else (bif Nat.beq pc 115 then some (.iload_n 2, 0, 0, 0, none, none, []) else none)) else (bif Nat.beq pc 113 then some (.bipush 10, 0, 0, 0, none, none, []) else none)) else (bif Nat.ble 110 pc then (bif Nat.ble 111 pc then (bif Nat.beq pc 111 then some (.bipush 22, 0, 0, 0, none, none, []) else none) else (bif Nat.beq pc 110 then some (.aload_n 1, 0, 0, 0, none, none, []) else none)) else (bif Nat.beq pc 109 then some (.ireturn, 0, 0, 0, none, none, []) else none))))) else (bif Nat.ble 91 pc then (bif Nat.ble 98 pc then (bif Nat.ble 103 pc then (bif Nat.ble 105 pc then (bif Nat.ble 108 pc then (bif Nat.beq pc 108 then some (.iconst 0, 0, 0, 0, none, none, []) else none) else (bif Nat.beq pc 105 then some (.ifCond .gt 5, 110, 0, 0, some [], some [1, 2, 3], []) else none)) else (bif Nat.ble 104 pc then (bif Nat.beq pc 104 then some (.lcmp, 0, 0, 0, none, none, []) else none) else (bif Nat.beq pc 103 then some (.i2l, 0, 0, 0, none, none, []) else none))) else (bif Nat.ble 99 pc then (bif Nat.ble 100 pc then (bif Nat.beq pc 100 then some (.invokestatic 34, 116, 0, 20088, none, none, []) else none) else (bif Nat.beq pc 99 then some (.iload_n 3, 0, 0, 0, none, none, []) else none)) else (bif Nat.beq pc 98 then some (.aload_n 0, 0, 0, 0, none, none, []) else none))) else (bif Nat.ble 95 pc then (bif Nat.ble 96 pc then (bif Nat.ble 97 pc then (bif Nat.beq pc 97 then some (.lmul, 0, 0, 0, none, none, []) else none) else (bif Nat.beq pc 96 then some (.laload, 0, 0, 0, none, none, []) else none)) else (bif Nat.beq pc 95 then some (.iadd, 0, 0, 0, none, none, []) else none)) else (bif Nat.ble 93 pc then (bif Nat.ble 94 pc then (bif Nat.beq pc 94 then some (.imul, 0, 0, 0, none, none, []) else none) else (bif Nat.beq pc 93 then some (.iload_n 2, 0, 0, 0, none, none, []) else none)) else (bif Nat.beq pc 91 then some (.bipush 10, 0, 0, 0, none, none, []) else none)))) else (bif Nat.ble 76 pc then (bif Nat.ble 82 pc then (bif Nat.ble 88 pc then (bif Nat.ble 89 pc then (bif Nat.beq pc 89 then some (.bipush 21, 0, 0, 0, none, none, []) else none) else (bif Nat.beq pc 88 then some (.aload_n 1, 0, 0, 0, none, none, []) else none)) else (bif Nat.ble 85 pc then (bif Nat.beq pc 85 then some (.ldc2_w 122, 3, 1, 30169, none, none, []) else none) else (bif Nat.beq pc 82 then some (.if_icmp .ne 28, 110, 0, 0, none, some [1, 2, 3], []) else none))) else (bif Nat.ble 79 pc then (bif Nat.ble 81 pc then (bif Nat.beq pc 81 then some (.iconst 4, 0, 0, 0, none, none, []) else none) else (bif Nat.beq pc 79 then some (.iload 4, 0, 0, 0, none, none, []) else none)) else (bif Nat.beq pc 76 then some (.ifCond .eq 32, 108, 0, 0, some [0, 1, 2, 3, 4], some [], []) else none))) else (bif Nat.ble 73 pc then (bif Nat.ble 74 pc then (bif Nat.ble 75 pc then (bif Nat.beq pc 75 then some (.lcmp, 0, 0, 0, none, none, []) else none) else (bif Nat.beq pc 74 then some (.lconst 0, 0, 0, 0, none, none, []) else none)) else (bif Nat.beq pc 73 then some (.laload, 0, 0, 0, none, none, []) else none)) else (bif Nat.ble 71 pc then (bif Nat.ble 72 pc then (bif Nat.beq pc 72 then some (.iadd, 0, 0, 0, none, none, []) else none) else (bif Nat.beq pc 71 then some (.imul, 0, 0, 0, none, none, []) else none)) else (bif Nat.beq pc 70 then some (.iload_n 2, 0, 0, 0, none, none, []) else none)))))) else (bif Nat.ble 30 pc then (bif Nat.ble 47 pc then (bif Nat.ble 56 pc then (bif Nat.ble 62 pc then (bif Nat.ble 66 pc then (bif Nat.ble 68 pc then (bif Nat.beq pc 68 then some (.bipush 10, 0, 0, 0, none, none, []) else none) else (bif Nat.beq pc 66 then some (.bipush 21, 0, 0, 0, none, none, []) else none)) else (bif Nat.ble 65 pc then (bif Nat.beq pc 65 then some (.aload_n 1, 0, 0, 0, none, none, []) else none) else (bif Nat.beq pc 62 then some (.if_icmp .ne 17, 79, 0, 0, some [0, 1, 2, 3, 4], some [0, 1, 2, 3, 4], []) else none))) else (bif Nat.ble 59 pc then (bif Nat.ble 61 pc then (bif Nat.beq pc 61 then some (.iconst 4, 0, 0, 0, none, none, []) else none) else (bif Nat.beq pc 59 then some (.iload 4, 0, 0, 0, none, none, []) else none)) else (bif Nat.beq pc 56 then some (.if_icmp .eq 9, 65, 0, 0, none, some [0, 1, 2, 3, 4], []) else none))) else (bif Nat.ble 52 pc then (bif Nat.ble 53 pc then (bif Nat.ble 55 pc then (bif Nat.beq pc 55 then some (.iconst 2, 0, 0, 0, none, none, []) else none) else (bif Nat.beq pc 53 then some (.iload 4, 0, 0, 0, none, none, []) else none)) else (bif Nat.beq pc 52 then some (.ireturn, 0, 0, 0, none, none, []) else none)) else (bif Nat.ble 48 pc then (bif Nat.ble 51 pc then (bif Nat.beq pc 51 then some (.iconst 0, 0, 0, 0, none, none, []) else none) else (bif Nat.beq pc 48 then some (.ifCond .ne 5, 53, 0, 0, some [], some [0, 1, 2, 3, 4], []) else none)) else (bif Nat.beq pc 47 then some (.lcmp, 0, 0, 0, none, none, []) else none)))) else (bif Nat.ble 40 pc then (bif Nat.ble 43 pc then (bif Nat.ble 45 pc then (bif Nat.ble 46 pc then (bif Nat.beq pc 46 then some (.lconst 0, 0, 0, 0, none, none, []) else none) else (bif Nat.beq pc 45 then some (.land, 0, 0, 0, none, none, []) else none)) else (bif Nat.ble 44 pc then (bif Nat.beq pc 44 then some (.lconst 1, 0, 0, 0, none, none, []) else none) else (bif Nat.beq pc 43 then some (.lshr, 0, 0, 0, none, none, []) else none))) else (bif Nat.ble 41 pc then (bif Nat.ble 42 pc then (bif Nat.beq pc 42 then some (.iload_n 3, 0, 0, 0, none, none, []) else none) else (bif Nat.beq pc 41 then some (.laload, 0, 0, 0, none, none, []) else none)) else (bif Nat.beq pc 40 then some (.iadd, 0, 0, 0, none, none, []) else none))) else (bif Nat.ble 36 pc then (bif Nat.ble 38 pc then (bif Nat.ble 39 pc then (bif Nat.beq pc 39 then some (.imul, 0, 0, 0, none, none, []) else none) else (bif Nat.beq pc 38 then some (.iload_n 2, 0, 0, 0, none, none, []) else none)) else (bif Nat.beq pc 36 then some (.bipush 10, 0, 0, 0, none, none, []) else none)) else (bif Nat.ble 33 pc then (bif Nat.ble 34 pc then (bif Nat.beq pc 34 then some (.bipush 22, 0, 0, 0, none, none, []) else none) else (bif Nat.beq pc 33 then some (.aload_n 1, 0, 0, 0, none, none, []) else none)) else (bif Nat.beq pc 30 then some (.ifCond .eq 21, 51, 0, 0, none, some [], []) else none))))) else (bif Nat.ble 15 pc then (bif Nat.ble 23 pc then (bif Nat.ble 26 pc then (bif Nat.ble 28 pc then (bif Nat.ble 29 pc then (bif Nat.beq pc 29 then some (.lcmp, 0, 0, 0, none, none, []) else none) else (bif Nat.beq pc 28 then some (.lconst 1, 0, 0, 0, none, none, []) else none)) else (bif Nat.ble 27 pc then (bif Nat.beq pc 27 then some (.land, 0, 0, 0, none, none, []) else none) else (bif Nat.beq pc 26 then some (.lconst 1, 0, 0, 0, none, none, []) else none))) else (bif Nat.ble 24 pc then (bif Nat.ble 25 pc then (bif Nat.beq pc 25 then some (.lshr, 0, 0, 0, none, none, []) else none) else (bif Nat.beq pc 24 then some (.l2i, 0, 0, 0, none, none, []) else none)) else (bif Nat.beq pc 23 then some (.laload, 0, 0, 0, none, none, []) else none))) else (bif Nat.ble 20 pc then (bif Nat.ble 21 pc then (bif Nat.ble 22 pc then (bif Nat.beq pc 22 then some (.iadd, 0, 0, 0, none, none, []) else none) else (bif Nat.beq pc 21 then some (.imul, 0, 0, 0, none, none, []) else none)) else (bif Nat.beq pc 20 then some (.iload_n 2, 0, 0, 0, none, none, []) else none)) else (bif Nat.ble 16 pc then (bif Nat.ble 18 pc then (bif Nat.beq pc 18 then some (.bipush 10, 0, 0, 0, none, none, []) else none) else (bif Nat.beq pc 16 then some (.bipush 20, 0, 0, 0, none, none, []) else none)) else (bif Nat.beq pc 15 then some (.aload_n 1, 0, 0, 0, none, none, []) else none)))) else (bif Nat.ble 6 pc then (bif Nat.ble 9 pc then (bif Nat.ble 13 pc then (bif Nat.ble 14 pc then (bif Nat.beq pc 14 then some (.laload, 0, 0, 0, none, none, []) else none) else (bif Nat.beq pc 13 then some (.iconst 0, 0, 0, 0, none, none, []) else none)) else (bif Nat.ble 12 pc then (bif Nat.beq pc 12 then some (.aload_n 1, 0, 0, 0, none, none, []) else none) else (bif Nat.beq pc 9 then some (.ifCond .eq 42, 51, 0, 0, none, some [], []) else none))) else (bif Nat.ble 7 pc then (bif Nat.ble 8 pc then (bif Nat.beq pc 8 then some (.lcmp, 0, 0, 0, none, none, []) else none) else (bif Nat.beq pc 7 then some (.lconst 1, 0, 0, 0, none, none, []) else none)) else (bif Nat.beq pc 6 then some (.land, 0, 0, 0, none, none, []) else none))) else (bif Nat.ble 3 pc then (bif Nat.ble 4 pc then (bif Nat.ble 5 pc then (bif Nat.beq pc 5 then some (.lconst 1, 0, 0, 0, none, none, []) else none) else (bif Nat.beq pc 4 then some (.lshr, 0, 0, 0, none, none, []) else none)) else (bif Nat.beq pc 3 then some (.iload_n 2, 0, 0, 0, none, none, []) else none)) else (bif Nat.ble 1 pc then (bif Nat.ble 2 pc then (bif Nat.beq pc 2 then some (.laload, 0, 0, 0, none, none, []) else none) else (bif Nat.beq pc 1 then some (.iconst 1, 0, 0, 0, none, none, []) else none)) else (bif Nat.beq pc 0 then some (.aload_n 1, 0, 0, 0, none, none, []) else none))))))
abbrev k_W_holds : Nat := 126
noncomputable def tb_126 (pc : Nat) : Option am_I := bif Nat.ble 29 pc then (bif Nat.ble 49 pc then (bif Nat.ble 57 pc then (bif Nat.ble 62 pc then (bif Nat.ble 65 pc then (bif Nat.ble 66 pc then (bif Nat.beq pc 66 then some (.ireturn, 0, 0, 0, none, none, []) else none) else (bif Nat.beq pc 65 then some (.iload_n 3, 0, 0, 0, none, none, []) else none)) else (bif Nat.beq pc 62 then some (.goto (-57), 5, 0, 0, none, some [0, 1, 2, 3, 4], []) else none)) else (bif Nat.ble 58 pc then (bif Nat.ble 59 pc then (bif Nat.beq pc 59 then some (.iinc 4 1, 0, 0, 0, none, none, []) else none) else (bif Nat.beq pc 58 then some (.istore_n 3, 0, 0, 0, none, none, []) else none)) else (bif Nat.beq pc 57 then some (.ior, 0, 0, 0, none, none, []) else none))) else (bif Nat.ble 52 pc then (bif Nat.ble 53 pc then (bif Nat.ble 56 pc then (bif Nat.beq pc 56 then some (.iconst 0, 0, 0, 0, some [0, 1, 2, 4], none, []) else none) else (bif Nat.beq pc 53 then some (.goto 4, 57, 0, 0, none, some [0, 1, 2, 4], []) else none)) else (bif Nat.beq pc 52 then some (.ishl, 0, 0, 0, none, none, []) else none)) else (bif Nat.ble 50 pc then (bif Nat.beq pc 50 then some (.iload 4, 0, 0, 0, none, none, []) else none) else (bif Nat.beq pc 49 then some (.iconst 1, 0, 0, 0, none, none, []) else none)))) else (bif Nat.ble 37 pc then (bif Nat.ble 40 pc then (bif Nat.ble 43 pc then (bif Nat.ble 46 pc then (bif Nat.beq pc 46 then some (.ifCond .eq 10, 56, 0, 0, none, some [0, 1, 2, 4], []) else none) else (bif Nat.beq pc 43 then some (.invokestatic 126, 125, 0, 30166, none, none, []) else none)) else (bif Nat.beq pc 40 then some (.invokestatic 30, 115, 0, 20085, none, none, []) else none)) else (bif Nat.ble 38 pc then (bif Nat.ble 39 pc then (bif Nat.beq pc 39 then some (.iload_n 2, 0, 0, 0, none, none, []) else none) else (bif Nat.beq pc 38 then some (.aload_n 0, 0, 0, 0, none, none, []) else none)) else (bif Nat.beq pc 37 then some (.iload_n 2, 0, 0, 0, none, none, []) else none))) else (bif Nat.ble 33 pc then (bif Nat.ble 34 pc then (bif Nat.ble 35 pc then (bif Nat.beq pc 35 then some (.iload 4, 0, 0, 0, none, none, []) else none) else (bif Nat.beq pc 34 then some (.aload_n 1, 0, 0, 0, none, none, []) else none)) else (bif Nat.beq pc 33 then some (.aload_n 0, 0, 0, 0, none, none, []) else none)) else (bif Nat.ble 30 pc then (bif Nat.beq pc 30 then some (.ifCond .eq 26, 56, 0, 0, none, some [0, 1, 2, 4], []) else none) else (bif Nat.beq pc 29 then some (.lcmp, 0, 0, 0, none, none, []) else none))))) else (bif Nat.ble 13 pc then (bif Nat.ble 22 pc then (bif Nat.ble 26 pc then (bif Nat.ble 27 pc then (bif Nat.ble 28 pc then (bif Nat.beq pc 28 then some (.i2l, 0, 0, 0, none, none, []) else none) else (bif Nat.beq pc 27 then some (.iload_n 2, 0, 0, 0, none, none, []) else none)) else (bif Nat.beq pc 26 then some (.laload, 0, 0, 0, none, none, []) else none)) else (bif Nat.ble 24 pc then (bif Nat.ble 25 pc then (bif Nat.beq pc 25 then some (.iadd, 0, 0, 0, none, none, []) else none) else (bif Nat.beq pc 24 then some (.imul, 0, 0, 0, none, none, []) else none)) else (bif Nat.beq pc 22 then some (.iload 4, 0, 0, 0, none, none, []) else none))) else (bif Nat.ble 17 pc then (bif Nat.ble 18 pc then (bif Nat.ble 20 pc then (bif Nat.beq pc 20 then some (.bipush 10, 0, 0, 0, none, none, []) else none) else (bif Nat.beq pc 18 then some (.bipush 20, 0, 0, 0, none, none, []) else none)) else (bif Nat.beq pc 17 then some (.aload_n 1, 0, 0, 0, none, none, []) else none)) else (bif Nat.ble 16 pc then (bif Nat.beq pc 16 then some (.iload_n 3, 0, 0, 0, none, none, []) else none) else (bif Nat.beq pc 13 then some (.ifCond .ge 52, 65, 0, 0, none, some [3], []) else none)))) else (bif Nat.ble 7 pc then (bif Nat.ble 9 pc then (bif Nat.ble 11 pc then (bif Nat.ble 12 pc then (bif Nat.beq pc 12 then some (.lcmp, 0, 0, 0, none, none, []) else none) else (bif Nat.beq pc 11 then some (.laload, 0, 0, 0, none, none, []) else none)) else (bif Nat.beq pc 9 then some (.bipush 10, 0, 0, 0, none, none, []) else none)) else (bif Nat.ble 8 pc then (bif Nat.beq pc 8 then some (.aload_n 1, 0, 0, 0, none, none, []) else none) else (bif Nat.beq pc 7 then some (.i2l, 0, 0, 0, none, none, []) else none))) else (bif Nat.ble 2 pc then (bif Nat.ble 3 pc then (bif Nat.ble 5 pc then (bif Nat.beq pc 5 then some (.iload 4, 0, 0, 0, none, none, []) else none) else (bif Nat.beq pc 3 then some (.istore 4, 0, 0, 0, some [0, 1, 2, 3, 4], none, []) else none)) else (bif Nat.beq pc 2 then some (.iconst 0, 0, 0, 0, none, none, []) else none)) else (bif Nat.ble 1 pc then (bif Nat.beq pc 1 then some (.istore_n 3, 0, 0, 0, none, none, []) else none) else (bif Nat.beq pc 0 then some (.iconst 0, 0, 0, 0, none, none, []) else none)))))
abbrev k_W_can : Nat := 127
noncomputable def tb_127 (pc : Nat) : Option am_I := bif Nat.ble 9 pc then (bif Nat.ble 18 pc then (bif Nat.ble 22 pc then (bif Nat.ble 25 pc then (bif Nat.ble 26 pc then (bif Nat.beq pc 26 then some (.ireturn, 0, 0, 0, none, none, []) else none) else (bif Nat.beq pc 25 then some (.iconst 0, 0, 0, 0, some [], none, []) else none)) else (bif Nat.beq pc 22 then some (.goto 4, 26, 0, 0, none, some [], []) else none)) else (bif Nat.ble 21 pc then (bif Nat.beq pc 21 then some (.iconst 1, 0, 0, 0, none, none, []) else none) else (bif Nat.beq pc 18 then some (.ifCond .ne 7, 25, 0, 0, none, some [], []) else none))) else (bif Nat.ble 13 pc then (bif Nat.ble 14 pc then (bif Nat.ble 15 pc then (bif Nat.beq pc 15 then some (.invokestatic 130, 126, 0, 30163, none, none, []) else none) else (bif Nat.beq pc 14 then some (.iload_n 2, 0, 0, 0, none, none, []) else none)) else (bif Nat.beq pc 13 then some (.aload_n 1, 0, 0, 0, none, none, []) else none)) else (bif Nat.ble 12 pc then (bif Nat.beq pc 12 then some (.aload_n 0, 0, 0, 0, none, none, []) else none) else (bif Nat.beq pc 9 then some (.ifCond .ne 16, 25, 0, 0, none, some [], []) else none)))) else (bif Nat.ble 4 pc then (bif Nat.ble 6 pc then (bif Nat.ble 7 pc then (bif Nat.ble 8 pc then (bif Nat.beq pc 8 then some (.lcmp, 0, 0, 0, none, none, []) else none) else (bif Nat.beq pc 7 then some (.lconst 0, 0, 0, 0, none, none, []) else none)) else (bif Nat.beq pc 6 then some (.land, 0, 0, 0, none, none, []) else none)) else (bif Nat.ble 5 pc then (bif Nat.beq pc 5 then some (.lconst 1, 0, 0, 0, none, none, []) else none) else (bif Nat.beq pc 4 then some (.lshr, 0, 0, 0, none, none, []) else none))) else (bif Nat.ble 2 pc then (bif Nat.ble 3 pc then (bif Nat.beq pc 3 then some (.iload_n 2, 0, 0, 0, none, none, []) else none) else (bif Nat.beq pc 2 then some (.laload, 0, 0, 0, none, none, []) else none)) else (bif Nat.ble 1 pc then (bif Nat.beq pc 1 then some (.iconst 0, 0, 0, 0, none, none, []) else none) else (bif Nat.beq pc 0 then some (.aload_n 1, 0, 0, 0, none, none, []) else none))))
abbrev k_W_last : Nat := 128
noncomputable def tb_128 (pc : Nat) : Option am_I := bif Nat.ble 43 pc then (bif Nat.ble 62 pc then (bif Nat.ble 72 pc then (bif Nat.ble 76 pc then (bif Nat.ble 78 pc then (bif Nat.ble 80 pc then (bif Nat.beq pc 80 then some (.ireturn, 0, 0, 0, none, none, []) else none) else (bif Nat.beq pc 78 then some (.iload 4, 0, 0, 0, none, none, []) else none)) else (bif Nat.ble 77 pc then (bif Nat.beq pc 77 then some (.lastore, 0, 0, 0, none, none, []) else none) else (bif Nat.beq pc 76 then some (.lload_n 2, 0, 0, 0, none, none, []) else none))) else (bif Nat.ble 74 pc then (bif Nat.ble 75 pc then (bif Nat.beq pc 75 then some (.iconst 0, 0, 0, 0, none, none, []) else none) else (bif Nat.beq pc 74 then some (.aload_n 1, 0, 0, 0, none, none, []) else none)) else (bif Nat.beq pc 72 then some (.istore 4, 0, 0, 0, none, none, []) else none))) else (bif Nat.ble 69 pc then (bif Nat.ble 70 pc then (bif Nat.ble 71 pc then (bif Nat.beq pc 71 then some (.l2i, 0, 0, 0, none, none, []) else none) else (bif Nat.beq pc 70 then some (.laload, 0, 0, 0, none, none, []) else none)) else (bif Nat.beq pc 69 then some (.iconst 0, 0, 0, 0, none, none, []) else none)) else (bif Nat.ble 65 pc then (bif Nat.ble 68 pc then (bif Nat.beq pc 68 then some (.aload_n 1, 0, 0, 0, none, none, []) else none) else (bif Nat.beq pc 65 then some (.goto (-58), 7, 0, 0, none, some [0, 1, 2, 4], []) else none)) else (bif Nat.beq pc 62 then some (.iinc 4 1, 0, 0, 0, none, none, []) else none)))) else (bif Nat.ble 51 pc then (bif Nat.ble 55 pc then (bif Nat.ble 56 pc then (bif Nat.ble 59 pc then (bif Nat.beq pc 59 then some (.goto (-42), 17, 0, 0, none, some [0, 1, 2, 4, 5], []) else none) else (bif Nat.beq pc 56 then some (.iinc 5 1, 0, 0, 0, none, none, []) else none)) else (bif Nat.beq pc 55 then some (.lastore, 0, 0, 0, some [0, 1, 2, 4, 5], none, []) else none)) else (bif Nat.ble 53 pc then (bif Nat.ble 54 pc then (bif Nat.beq pc 54 then some (.lor, 0, 0, 0, none, none, []) else none) else (bif Nat.beq pc 53 then some (.lshl, 0, 0, 0, none, none, []) else none)) else (bif Nat.beq pc 51 then some (.iload 5, 0, 0, 0, none, none, []) else none))) else (bif Nat.ble 48 pc then (bif Nat.ble 49 pc then (bif Nat.ble 50 pc then (bif Nat.beq pc 50 then some (.lconst 1, 0, 0, 0, none, none, []) else none) else (bif Nat.beq pc 49 then some (.laload, 0, 0, 0, none, none, []) else none)) else (bif Nat.beq pc 48 then some (.dup2, 0, 0, 0, none, none, []) else none)) else (bif Nat.ble 46 pc then (bif Nat.ble 47 pc then (bif Nat.beq pc 47 then some (.iconst 0, 0, 0, 0, none, none, []) else none) else (bif Nat.beq pc 46 then some (.aload_n 1, 0, 0, 0, none, none, []) else none)) else (bif Nat.beq pc 43 then some (.ifCond .eq 13, 56, 0, 0, none, some [0, 1, 2, 4, 5], []) else none))))) else (bif Nat.ble 19 pc then (bif Nat.ble 32 pc then (bif Nat.ble 37 pc then (bif Nat.ble 38 pc then (bif Nat.ble 40 pc then (bif Nat.beq pc 40 then some (.invokestatic 134, 127, 0, 30171, none, none, []) else none) else (bif Nat.beq pc 38 then some (.iload 5, 0, 0, 0, none, none, []) else none)) else (bif Nat.beq pc 37 then some (.aload_n 1, 0, 0, 0, none, none, []) else none)) else (bif Nat.ble 33 pc then (bif Nat.ble 36 pc then (bif Nat.beq pc 36 then some (.aload_n 0, 0, 0, 0, none, none, []) else none) else (bif Nat.beq pc 33 then some (.if_icmp .eq 23, 56, 0, 0, none, some [0, 1, 2, 4, 5], []) else none)) else (bif Nat.beq pc 32 then some (.iconst 5, 0, 0, 0, none, none, []) else none))) else (bif Nat.ble 26 pc then (bif Nat.ble 27 pc then (bif Nat.ble 29 pc then (bif Nat.beq pc 29 then some (.invokestatic 30, 115, 0, 20085, none, none, []) else none) else (bif Nat.beq pc 27 then some (.iload 5, 0, 0, 0, none, none, []) else none)) else (bif Nat.beq pc 26 then some (.aload_n 0, 0, 0, 0, none, none, []) else none)) else (bif Nat.ble 20 pc then (bif Nat.ble 23 pc then (bif Nat.beq pc 23 then some (.if_icmp .ge 39, 62, 0, 0, none, some [0, 1, 2, 4], []) else none) else (bif Nat.beq pc 20 then some (.invokestatic 24, 113, 0, 20082, none, none, []) else none)) else (bif Nat.beq pc 19 then some (.aload_n 0, 0, 0, 0, none, none, []) else none)))) else (bif Nat.ble 7 pc then (bif Nat.ble 14 pc then (bif Nat.ble 15 pc then (bif Nat.ble 17 pc then (bif Nat.beq pc 17 then some (.iload 5, 0, 0, 0, none, none, []) else none) else (bif Nat.beq pc 15 then some (.istore 5, 0, 0, 0, some [0, 1, 2, 4, 5], none, []) else none)) else (bif Nat.beq pc 14 then some (.iconst 0, 0, 0, 0, none, none, []) else none)) else (bif Nat.ble 9 pc then (bif Nat.ble 11 pc then (bif Nat.beq pc 11 then some (.if_icmp .ge 57, 68, 0, 0, none, some [1, 2], []) else none) else (bif Nat.beq pc 9 then some (.bipush 8, 0, 0, 0, none, none, []) else none)) else (bif Nat.beq pc 7 then some (.iload 4, 0, 0, 0, none, none, []) else none))) else (bif Nat.ble 3 pc then (bif Nat.ble 4 pc then (bif Nat.ble 5 pc then (bif Nat.beq pc 5 then some (.istore 4, 0, 0, 0, some [0, 1, 2, 4], none, []) else none) else (bif Nat.beq pc 4 then some (.iconst 0, 0, 0, 0, none, none, []) else none)) else (bif Nat.beq pc 3 then some (.lstore_n 2, 0, 0, 0, none, none, []) else none)) else (bif Nat.ble 1 pc then (bif Nat.ble 2 pc then (bif Nat.beq pc 2 then some (.laload, 0, 0, 0, none, none, []) else none) else (bif Nat.beq pc 1 then some (.iconst 0, 0, 0, 0, none, none, []) else none)) else (bif Nat.beq pc 0 then some (.aload_n 1, 0, 0, 0, none, none, []) else none)))))
abbrev k_law : Nat := 129
noncomputable def tb_129 (pc : Nat) : Option am_I := bif Nat.ble 462 pc then (bif Nat.ble 666 pc then (bif Nat.ble 774 pc then (bif Nat.ble 835 pc then (bif Nat.ble 866 pc then (bif Nat.ble 887 pc then (bif Nat.ble 897 pc then (bif Nat.ble 901 pc then (bif Nat.ble 902 pc then (bif Nat.beq pc 902 then some (.ireturn, 0, 0, 0, none, none, []) else none) else (bif Nat.beq pc 901 then some (.iconst 0, 0, 0, 0, some [], none, []) else none)) else (bif Nat.ble 898 pc then (bif Nat.beq pc 898 then some (.goto 4, 902, 0, 0, none, some [], []) else none) else (bif Nat.beq pc 897 then some (.iconst 1, 0, 0, 0, none, none, []) else none))) else (bif Nat.ble 891 pc then (bif Nat.ble 894 pc then (bif Nat.beq pc 894 then some (.ifCond .ne 7, 901, 0, 0, none, some [], []) else none) else (bif Nat.beq pc 891 then some (.invokevirtual 166, 61, 0, 20030, none, none, []) else none)) else (bif Nat.ble 888 pc then (bif Nat.beq pc 888 then some (.invokespecial 23, 47, 0, 24, none, none, []) else none) else (bif Nat.beq pc 887 then some (.dup, 0, 0, 0, none, none, []) else none)))) else (bif Nat.ble 875 pc then (bif Nat.ble 881 pc then (bif Nat.ble 884 pc then (bif Nat.beq pc 884 then some (.new 18, 6, 0, 22, none, none, []) else none) else (bif Nat.beq pc 881 then some (.ifCond .ne 20, 901, 0, 0, none, some [], []) else none)) else (bif Nat.ble 878 pc then (bif Nat.beq pc 878 then some (.invokevirtual 163, 57, 0, 10213, none, none, []) else none) else (bif Nat.beq pc 875 then some (.invokespecial 23, 47, 0, 24, none, none, []) else none))) else (bif Nat.ble 871 pc then (bif Nat.ble 874 pc then (bif Nat.beq pc 874 then some (.dup, 0, 0, 0, none, none, []) else none) else (bif Nat.beq pc 871 then some (.new 18, 6, 0, 22, none, none, []) else none)) else (bif Nat.ble 868 pc then (bif Nat.beq pc 868 then some (.if_icmp .ne 33, 901, 0, 0, some [], some [], []) else none) else (bif Nat.beq pc 866 then some (.bipush (-7), 0, 0, 0, none, none, []) else none))))) else (bif Nat.ble 850 pc then (bif Nat.ble 860 pc then (bif Nat.ble 862 pc then (bif Nat.ble 863 pc then (bif Nat.beq pc 863 then some (.invokevirtual 173, 55, 0, 10188, none, none, []) else none) else (bif Nat.beq pc 862 then some (.iconst 5, 0, 0, 0, none, none, []) else none)) else (bif Nat.ble 861 pc then (bif Nat.beq pc 861 then some (.iconst 0, 0, 0, 0, none, none, []) else none) else (bif Nat.beq pc 860 then some (.aload_n 1, 0, 0, 0, none, none, []) else none))) else (bif Nat.ble 855 pc then (bif Nat.ble 857 pc then (bif Nat.beq pc 857 then some (.ifCond .eq 14, 871, 0, 0, none, some [], []) else none) else (bif Nat.beq pc 855 then some (.iload 4, 0, 0, 0, none, none, []) else none)) else (bif Nat.ble 852 pc then (bif Nat.beq pc 852 then some (.if_icmp .ne 49, 901, 0, 0, none, some [], []) else none) else (bif Nat.beq pc 850 then some (.bipush (-5), 0, 0, 0, none, none, []) else none)))) else (bif Nat.ble 843 pc then (bif Nat.ble 846 pc then (bif Nat.ble 847 pc then (bif Nat.beq pc 847 then some (.invokevirtual 173, 55, 0, 10188, none, none, []) else none) else (bif Nat.beq pc 846 then some (.iconst 0, 0, 0, 0, none, none, []) else none)) else (bif Nat.ble 844 pc then (bif Nat.beq pc 844 then some (.bipush 10, 0, 0, 0, none, none, []) else none) else (bif Nat.beq pc 843 then some (.aload_n 1, 0, 0, 0, none, none, []) else none))) else (bif Nat.ble 838 pc then (bif Nat.ble 840 pc then (bif Nat.beq pc 840 then some (.if_icmp .ne 61, 901, 0, 0, none, some [], []) else none) else (bif Nat.beq pc 838 then some (.bipush (-7), 0, 0, 0, none, none, []) else none)) else (bif Nat.beq pc 835 then some (.invokevirtual 160, 53, 0, 10173, none, none, []) else none))))) else (bif Nat.ble 804 pc then (bif Nat.ble 821 pc then (bif Nat.ble 829 pc then (bif Nat.ble 833 pc then (bif Nat.ble 834 pc then (bif Nat.beq pc 834 then some (.iconst 4, 0, 0, 0, none, none, []) else none) else (bif Nat.beq pc 833 then some (.iconst 0, 0, 0, 0, none, none, []) else none)) else (bif Nat.ble 832 pc then (bif Nat.beq pc 832 then some (.aload_n 1, 0, 0, 0, none, none, []) else none) else (bif Nat.beq pc 829 then some (.if_icmp .ne 72, 901, 0, 0, none, some [], []) else none))) else (bif Nat.ble 824 pc then (bif Nat.ble 827 pc then (bif Nat.beq pc 827 then some (.bipush (-5), 0, 0, 0, none, none, []) else none) else (bif Nat.beq pc 824 then some (.invokevirtual 160, 53, 0, 10173, none, none, []) else none)) else (bif Nat.ble 823 pc then (bif Nat.beq pc 823 then some (.iconst 0, 0, 0, 0, none, none, []) else none) else (bif Nat.beq pc 821 then some (.bipush 8, 0, 0, 0, none, none, []) else none)))) else (bif Nat.ble 812 pc then (bif Nat.ble 817 pc then (bif Nat.ble 820 pc then (bif Nat.beq pc 820 then some (.aload_n 1, 0, 0, 0, none, none, []) else none) else (bif Nat.beq pc 817 then some (.if_icmp .ne 84, 901, 0, 0, none, some [], []) else none)) else (bif Nat.ble 815 pc then (bif Nat.beq pc 815 then some (.bipush (-5), 0, 0, 0, none, none, []) else none) else (bif Nat.beq pc 812 then some (.invokevirtual 63, 59, 0, 10236, none, none, []) else none))) else (bif Nat.ble 809 pc then (bif Nat.ble 810 pc then (bif Nat.beq pc 810 then some (.bipush 10, 0, 0, 0, none, none, []) else none) else (bif Nat.beq pc 809 then some (.aload_n 1, 0, 0, 0, none, none, []) else none)) else (bif Nat.ble 806 pc then (bif Nat.beq pc 806 then some (.if_icmp .ne 95, 901, 0, 0, none, some [], []) else none) else (bif Nat.beq pc 804 then some (.bipush (-5), 0, 0, 0, none, none, []) else none))))) else (bif Nat.ble 787 pc then (bif Nat.ble 795 pc then (bif Nat.ble 799 pc then (bif Nat.ble 801 pc then (bif Nat.beq pc 801 then some (.invokevirtual 182, 58, 0, 10225, none, none, []) else none) else (bif Nat.beq pc 799 then some (.bipush 8, 0, 0, 0, none, none, []) else none)) else (bif Nat.ble 798 pc then (bif Nat.beq pc 798 then some (.aload_n 1, 0, 0, 0, none, none, []) else none) else (bif Nat.beq pc 795 then some (.if_icmp .ne 106, 901, 0, 0, none, some [], []) else none))) else (bif Nat.ble 790 pc then (bif Nat.ble 793 pc then (bif Nat.beq pc 793 then some (.bipush (-5), 0, 0, 0, none, none, []) else none) else (bif Nat.beq pc 790 then some (.invokevirtual 157, 60, 0, 20021, none, none, []) else none)) else (bif Nat.ble 788 pc then (bif Nat.beq pc 788 then some (.bipush 8, 0, 0, 0, none, none, []) else none) else (bif Nat.beq pc 787 then some (.aload_n 1, 0, 0, 0, none, none, []) else none)))) else (bif Nat.ble 777 pc then (bif Nat.ble 782 pc then (bif Nat.ble 784 pc then (bif Nat.beq pc 784 then some (.if_icmp .ne 117, 901, 0, 0, none, some [], []) else none) else (bif Nat.beq pc 782 then some (.bipush (-5), 0, 0, 0, none, none, []) else none)) else (bif Nat.ble 779 pc then (bif Nat.beq pc 779 then some (.invokevirtual 155, 56, 0, 10200, none, none, []) else none) else (bif Nat.beq pc 777 then some (.bipush 8, 0, 0, 0, none, none, []) else none))) else (bif Nat.ble 775 pc then (bif Nat.ble 776 pc then (bif Nat.beq pc 776 then some (.aload_n 1, 0, 0, 0, none, none, []) else none) else (bif Nat.beq pc 775 then some (.ireturn, 0, 0, 0, none, none, []) else none)) else (bif Nat.beq pc 774 then some (.iconst 0, 0, 0, 0, none, none, []) else none)))))) else (bif Nat.ble 719 pc then (bif Nat.ble 747 pc then (bif Nat.ble 764 pc then (bif Nat.ble 768 pc then (bif Nat.ble 770 pc then (bif Nat.ble 771 pc then (bif Nat.beq pc 771 then some (.if_icmp .eq 5, 776, 0, 0, none, some [1, 4], []) else none) else (bif Nat.beq pc 770 then some (.iand, 0, 0, 0, none, none, []) else none)) else (bif Nat.ble 769 pc then (bif Nat.beq pc 769 then some (.ixor, 0, 0, 0, none, none, []) else none) else (bif Nat.beq pc 768 then some (.iconst (-1), 0, 0, 0, none, none, []) else none))) else (bif Nat.ble 766 pc then (bif Nat.ble 767 pc then (bif Nat.beq pc 767 then some (.l2i, 0, 0, 0, none, none, []) else none) else (bif Nat.beq pc 766 then some (.laload, 0, 0, 0, none, none, []) else none)) else (bif Nat.ble 765 pc then (bif Nat.beq pc 765 then some (.iconst 0, 0, 0, 0, none, none, []) else none) else (bif Nat.beq pc 764 then some (.aload_n 2, 0, 0, 0, none, none, []) else none)))) else (bif Nat.ble 755 pc then (bif Nat.ble 759 pc then (bif Nat.ble 762 pc then (bif Nat.beq pc 762 then some (.iload 5, 0, 0, 0, none, none, []) else none) else (bif Nat.beq pc 759 then some (.invokevirtual 163, 57, 0, 10213, none, none, []) else none)) else (bif Nat.ble 758 pc then (bif Nat.beq pc 758 then some (.aload_n 1, 0, 0, 0, none, none, []) else none) else (bif Nat.beq pc 755 then some (.goto (-20), 735, 0, 0, none, some [1, 2, 3, 4, 5, 7], []) else none))) else (bif Nat.ble 751 pc then (bif Nat.ble 752 pc then (bif Nat.beq pc 752 then some (.iinc 7 1, 0, 0, 0, none, none, []) else none) else (bif Nat.beq pc 751 then some (.ireturn, 0, 0, 0, none, none, []) else none)) else (bif Nat.ble 750 pc then (bif Nat.beq pc 750 then some (.iconst 0, 0, 0, 0, none, none, []) else none) else (bif Nat.beq pc 747 then some (.ifCond .eq 5, 752, 0, 0, none, some [1, 2, 3, 4, 5, 7], []) else none))))) else (bif Nat.ble 732 pc then (bif Nat.ble 738 pc then (bif Nat.ble 742 pc then (bif Nat.ble 744 pc then (bif Nat.beq pc 744 then some (.invokevirtual 155, 56, 0, 10200, none, none, []) else none) else (bif Nat.beq pc 742 then some (.iload 7, 0, 0, 0, none, none, []) else none)) else (bif Nat.ble 741 pc then (bif Nat.beq pc 741 then some (.aload_n 1, 0, 0, 0, none, none, []) else none) else (bif Nat.beq pc 738 then some (.if_icmp .ge 20, 758, 0, 0, none, some [1, 2, 4, 5], []) else none))) else (bif Nat.ble 735 pc then (bif Nat.ble 737 pc then (bif Nat.beq pc 737 then some (.iload_n 3, 0, 0, 0, none, none, []) else none) else (bif Nat.beq pc 735 then some (.iload 7, 0, 0, 0, none, none, []) else none)) else (bif Nat.ble 733 pc then (bif Nat.beq pc 733 then some (.istore 7, 0, 0, 0, some [1, 2, 3, 4, 5, 7], none, []) else none) else (bif Nat.beq pc 732 then some (.iconst 0, 0, 0, 0, none, none, []) else none)))) else (bif Nat.ble 724 pc then (bif Nat.ble 726 pc then (bif Nat.ble 729 pc then (bif Nat.beq pc 729 then some (.goto (-130), 599, 0, 0, none, some [0, 1, 2, 3, 4, 5, 7], []) else none) else (bif Nat.beq pc 726 then some (.iinc 7 1, 0, 0, 0, none, none, []) else none)) else (bif Nat.ble 725 pc then (bif Nat.beq pc 725 then some (.ireturn, 0, 0, 0, none, none, []) else none) else (bif Nat.beq pc 724 then some (.iconst 0, 0, 0, 0, none, none, []) else none))) else (bif Nat.ble 720 pc then (bif Nat.ble 721 pc then (bif Nat.beq pc 721 then some (.ifCond .eq 5, 726, 0, 0, none, some [0, 1, 2, 3, 4, 5, 7], []) else none) else (bif Nat.beq pc 720 then some (.lcmp, 0, 0, 0, none, none, []) else none)) else (bif Nat.beq pc 719 then some (.laload, 0, 0, 0, none, none, []) else none))))) else (bif Nat.ble 698 pc then (bif Nat.ble 709 pc then (bif Nat.ble 713 pc then (bif Nat.ble 717 pc then (bif Nat.ble 718 pc then (bif Nat.beq pc 718 then some (.iconst 1, 0, 0, 0, none, none, []) else none) else (bif Nat.beq pc 717 then some (.aload_n 2, 0, 0, 0, none, none, []) else none)) else (bif Nat.ble 716 pc then (bif Nat.beq pc 716 then some (.i2l, 0, 0, 0, none, none, []) else none) else (bif Nat.beq pc 713 then some (.invokevirtual 190, 48, 0, 10169, none, none, []) else none))) else (bif Nat.ble 711 pc then (bif Nat.ble 712 pc then (bif Nat.beq pc 712 then some (.iconst 3, 0, 0, 0, none, none, []) else none) else (bif Nat.beq pc 711 then some (.aload_n 1, 0, 0, 0, none, none, []) else none)) else (bif Nat.ble 710 pc then (bif Nat.beq pc 710 then some (.lastore, 0, 0, 0, some [0, 1, 2, 3, 4, 5, 7], none, []) else none) else (bif Nat.beq pc 709 then some (.lor, 0, 0, 0, none, none, []) else none)))) else (bif Nat.ble 704 pc then (bif Nat.ble 706 pc then (bif Nat.ble 708 pc then (bif Nat.beq pc 708 then some (.lshl, 0, 0, 0, none, none, []) else none) else (bif Nat.beq pc 706 then some (.iload 7, 0, 0, 0, none, none, []) else none)) else (bif Nat.ble 705 pc then (bif Nat.beq pc 705 then some (.lconst 1, 0, 0, 0, none, none, []) else none) else (bif Nat.beq pc 704 then some (.laload, 0, 0, 0, none, none, []) else none))) else (bif Nat.ble 702 pc then (bif Nat.ble 703 pc then (bif Nat.beq pc 703 then some (.dup2, 0, 0, 0, none, none, []) else none) else (bif Nat.beq pc 702 then some (.iconst 1, 0, 0, 0, none, none, []) else none)) else (bif Nat.ble 701 pc then (bif Nat.beq pc 701 then some (.aload_n 2, 0, 0, 0, none, none, []) else none) else (bif Nat.beq pc 698 then some (.ifCond .eq 13, 711, 0, 0, none, some [0, 1, 2, 3, 4, 5, 7], []) else none))))) else (bif Nat.ble 681 pc then (bif Nat.ble 691 pc then (bif Nat.ble 695 pc then (bif Nat.ble 696 pc then (bif Nat.beq pc 696 then some (.iload 8, 0, 0, 0, none, none, []) else none) else (bif Nat.beq pc 695 then some (.ireturn, 0, 0, 0, none, none, []) else none)) else (bif Nat.ble 694 pc then (bif Nat.beq pc 694 then some (.iconst 0, 0, 0, 0, none, none, []) else none) else (bif Nat.beq pc 691 then some (.if_icmp .eq 5, 696, 0, 0, some [], some [0, 1, 2, 3, 4, 5, 7, 8], []) else none))) else (bif Nat.ble 686 pc then (bif Nat.ble 689 pc then (bif Nat.beq pc 689 then some (.bipush (-3), 0, 0, 0, some [0, 1, 2, 3, 4, 5, 7, 8], none, []) else none) else (bif Nat.beq pc 686 then some (.goto 5, 691, 0, 0, none, some [0, 1, 2, 3, 4, 5, 7, 8], []) else none)) else (bif Nat.ble 683 pc then (bif Nat.beq pc 683 then some (.invokestatic 193, 123, 0, 30151, none, none, []) else none) else (bif Nat.beq pc 681 then some (.iload 7, 0, 0, 0, none, none, []) else none)))) else (bif Nat.ble 674 pc then (bif Nat.ble 676 pc then (bif Nat.ble 678 pc then (bif Nat.beq pc 678 then some (.invokestatic 47, 118, 0, 20128, none, none, []) else none) else (bif Nat.beq pc 676 then some (.iload 7, 0, 0, 0, none, none, []) else none)) else (bif Nat.ble 675 pc then (bif Nat.beq pc 675 then some (.aload_n 0, 0, 0, 0, none, none, []) else none) else (bif Nat.beq pc 674 then some (.aload_n 0, 0, 0, 0, none, none, []) else none))) else (bif Nat.ble 669 pc then (bif Nat.ble 671 pc then (bif Nat.beq pc 671 then some (.ifCond .eq 18, 689, 0, 0, none, some [0, 1, 2, 3, 4, 5, 7, 8], []) else none) else (bif Nat.beq pc 669 then some (.iload 8, 0, 0, 0, none, none, []) else none)) else (bif Nat.beq pc 666 then some (.invokevirtual 63, 59, 0, 10236, none, none, []) else none))))))) else (bif Nat.ble 564 pc then (bif Nat.ble 614 pc then (bif Nat.ble 636 pc then (bif Nat.ble 650 pc then (bif Nat.ble 659 pc then (bif Nat.ble 663 pc then (bif Nat.ble 664 pc then (bif Nat.beq pc 664 then some (.iload 7, 0, 0, 0, none, none, []) else none) else (bif Nat.beq pc 663 then some (.aload_n 1, 0, 0, 0, none, none, []) else none)) else (bif Nat.ble 660 pc then (bif Nat.beq pc 660 then some (.if_icmp .ne 34, 694, 0, 0, none, some [], []) else none) else (bif Nat.beq pc 659 then some (.iconst 0, 0, 0, 0, some [0, 1, 2, 3, 4, 5, 7, 8], none, []) else none))) else (bif Nat.ble 655 pc then (bif Nat.ble 656 pc then (bif Nat.beq pc 656 then some (.goto 4, 660, 0, 0, none, some [0, 1, 2, 3, 4, 5, 7, 8], []) else none) else (bif Nat.beq pc 655 then some (.iconst 1, 0, 0, 0, none, none, []) else none)) else (bif Nat.ble 652 pc then (bif Nat.beq pc 652 then some (.ifCond .eq 7, 659, 0, 0, none, some [0, 1, 2, 3, 4, 5, 7, 8], []) else none) else (bif Nat.beq pc 650 then some (.iload 8, 0, 0, 0, none, none, []) else none)))) else (bif Nat.ble 643 pc then (bif Nat.ble 646 pc then (bif Nat.ble 647 pc then (bif Nat.beq pc 647 then some (.invokevirtual 173, 55, 0, 10188, none, none, []) else none) else (bif Nat.beq pc 646 then some (.iconst 4, 0, 0, 0, none, none, []) else none)) else (bif Nat.ble 644 pc then (bif Nat.beq pc 644 then some (.iload 7, 0, 0, 0, none, none, []) else none) else (bif Nat.beq pc 643 then some (.aload_n 1, 0, 0, 0, none, none, []) else none))) else (bif Nat.ble 640 pc then (bif Nat.ble 641 pc then (bif Nat.beq pc 641 then some (.istore 8, 0, 0, 0, none, none, []) else none) else (bif Nat.beq pc 640 then some (.iconst 0, 0, 0, 0, some [0, 1, 2, 3, 4, 5, 7], none, []) else none)) else (bif Nat.ble 637 pc then (bif Nat.beq pc 637 then some (.goto 4, 641, 0, 0, none, some [0, 1, 2, 3, 4, 5, 7], []) else none) else (bif Nat.beq pc 636 then some (.iconst 1, 0, 0, 0, none, none, []) else none))))) else (bif Nat.ble 623 pc then (bif Nat.ble 630 pc then (bif Nat.ble 632 pc then (bif Nat.ble 633 pc then (bif Nat.beq pc 633 then some (.ifCond .ne 7, 640, 0, 0, none, some [0, 1, 2, 3, 4, 5, 7], []) else none) else (bif Nat.beq pc 632 then some (.lcmp, 0, 0, 0, none, none, []) else none)) else (bif Nat.ble 631 pc then (bif Nat.beq pc 631 then some (.lconst 0, 0, 0, 0, none, none, []) else none) else (bif Nat.beq pc 630 then some (.land, 0, 0, 0, none, none, []) else none))) else (bif Nat.ble 628 pc then (bif Nat.ble 629 pc then (bif Nat.beq pc 629 then some (.lconst 1, 0, 0, 0, none, none, []) else none) else (bif Nat.beq pc 628 then some (.lshr, 0, 0, 0, none, none, []) else none)) else (bif Nat.ble 625 pc then (bif Nat.beq pc 625 then some (.invokestatic 47, 118, 0, 20128, none, none, []) else none) else (bif Nat.beq pc 623 then some (.iload 7, 0, 0, 0, none, none, []) else none)))) else (bif Nat.ble 619 pc then (bif Nat.ble 621 pc then (bif Nat.ble 622 pc then (bif Nat.beq pc 622 then some (.aload_n 0, 0, 0, 0, none, none, []) else none) else (bif Nat.beq pc 621 then some (.laload, 0, 0, 0, none, none, []) else none)) else (bif Nat.ble 620 pc then (bif Nat.beq pc 620 then some (.iconst 0, 0, 0, 0, none, none, []) else none) else (bif Nat.beq pc 619 then some (.aload_n 2, 0, 0, 0, none, none, []) else none))) else (bif Nat.ble 615 pc then (bif Nat.ble 616 pc then (bif Nat.beq pc 616 then some (.ifCond .ne 24, 640, 0, 0, none, some [0, 1, 2, 3, 4, 5, 7], []) else none) else (bif Nat.beq pc 615 then some (.lcmp, 0, 0, 0, none, none, []) else none)) else (bif Nat.beq pc 614 then some (.lconst 0, 0, 0, 0, none, none, []) else none))))) else (bif Nat.ble 588 pc then (bif Nat.ble 603 pc then (bif Nat.ble 609 pc then (bif Nat.ble 612 pc then (bif Nat.ble 613 pc then (bif Nat.beq pc 613 then some (.land, 0, 0, 0, none, none, []) else none) else (bif Nat.beq pc 612 then some (.lconst 1, 0, 0, 0, none, none, []) else none)) else (bif Nat.ble 611 pc then (bif Nat.beq pc 611 then some (.lshr, 0, 0, 0, none, none, []) else none) else (bif Nat.beq pc 609 then some (.iload 7, 0, 0, 0, none, none, []) else none))) else (bif Nat.ble 607 pc then (bif Nat.ble 608 pc then (bif Nat.beq pc 608 then some (.laload, 0, 0, 0, none, none, []) else none) else (bif Nat.beq pc 607 then some (.iconst 1, 0, 0, 0, none, none, []) else none)) else (bif Nat.ble 606 pc then (bif Nat.beq pc 606 then some (.aload_n 2, 0, 0, 0, none, none, []) else none) else (bif Nat.beq pc 603 then some (.if_icmp .ge 129, 732, 0, 0, none, some [1, 2, 3, 4, 5], []) else none)))) else (bif Nat.ble 596 pc then (bif Nat.ble 599 pc then (bif Nat.ble 601 pc then (bif Nat.beq pc 601 then some (.iload 4, 0, 0, 0, none, none, []) else none) else (bif Nat.beq pc 599 then some (.iload 7, 0, 0, 0, none, none, []) else none)) else (bif Nat.ble 597 pc then (bif Nat.beq pc 597 then some (.istore 7, 0, 0, 0, some [0, 1, 2, 3, 4, 5, 7], none, []) else none) else (bif Nat.beq pc 596 then some (.iconst 0, 0, 0, 0, none, none, []) else none))) else (bif Nat.ble 590 pc then (bif Nat.ble 593 pc then (bif Nat.beq pc 593 then some (.goto (-113), 480, 0, 0, none, some [0, 1, 2, 3, 4, 5, 7], []) else none) else (bif Nat.beq pc 590 then some (.iinc 7 1, 0, 0, 0, none, none, []) else none)) else (bif Nat.ble 589 pc then (bif Nat.beq pc 589 then some (.ireturn, 0, 0, 0, none, none, []) else none) else (bif Nat.beq pc 588 then some (.iconst 0, 0, 0, 0, none, none, []) else none))))) else (bif Nat.ble 575 pc then (bif Nat.ble 582 pc then (bif Nat.ble 584 pc then (bif Nat.ble 585 pc then (bif Nat.beq pc 585 then some (.if_icmp .eq 5, 590, 0, 0, some [], some [0, 1, 2, 3, 4, 5, 7], []) else none) else (bif Nat.beq pc 584 then some (.iand, 0, 0, 0, none, none, []) else none)) else (bif Nat.ble 583 pc then (bif Nat.beq pc 583 then some (.ixor, 0, 0, 0, none, none, []) else none) else (bif Nat.beq pc 582 then some (.iconst (-1), 0, 0, 0, none, none, []) else none))) else (bif Nat.ble 578 pc then (bif Nat.ble 579 pc then (bif Nat.beq pc 579 then some (.invokestatic 169, 128, 0, 30174, none, none, []) else none) else (bif Nat.beq pc 578 then some (.aload_n 2, 0, 0, 0, none, none, []) else none)) else (bif Nat.ble 577 pc then (bif Nat.beq pc 577 then some (.aload_n 0, 0, 0, 0, none, none, []) else none) else (bif Nat.beq pc 575 then some (.iload 5, 0, 0, 0, none, none, []) else none)))) else (bif Nat.ble 567 pc then (bif Nat.ble 571 pc then (bif Nat.ble 572 pc then (bif Nat.beq pc 572 then some (.invokevirtual 166, 61, 0, 20030, none, none, []) else none) else (bif Nat.beq pc 571 then some (.aload_n 1, 0, 0, 0, none, none, []) else none)) else (bif Nat.ble 568 pc then (bif Nat.beq pc 568 then some (.ifCond .ne 20, 588, 0, 0, none, some [], []) else none) else (bif Nat.beq pc 567 then some (.lcmp, 0, 0, 0, none, none, []) else none))) else (bif Nat.ble 565 pc then (bif Nat.ble 566 pc then (bif Nat.beq pc 566 then some (.laload, 0, 0, 0, none, none, []) else none) else (bif Nat.beq pc 565 then some (.iconst 0, 0, 0, 0, none, none, []) else none)) else (bif Nat.beq pc 564 then some (.aload_n 2, 0, 0, 0, none, none, []) else none)))))) else (bif Nat.ble 515 pc then (bif Nat.ble 542 pc then (bif Nat.ble 553 pc then (bif Nat.ble 558 pc then (bif Nat.ble 560 pc then (bif Nat.ble 563 pc then (bif Nat.beq pc 563 then some (.i2l, 0, 0, 0, none, none, []) else none) else (bif Nat.beq pc 560 then some (.invokevirtual 190, 48, 0, 10169, none, none, []) else none)) else (bif Nat.ble 559 pc then (bif Nat.beq pc 559 then some (.iconst 2, 0, 0, 0, none, none, []) else none) else (bif Nat.beq pc 558 then some (.aload_n 1, 0, 0, 0, none, none, []) else none))) else (bif Nat.ble 556 pc then (bif Nat.ble 557 pc then (bif Nat.beq pc 557 then some (.lastore, 0, 0, 0, some [0, 1, 2, 3, 4, 5, 7], none, []) else none) else (bif Nat.beq pc 556 then some (.lor, 0, 0, 0, none, none, []) else none)) else (bif Nat.ble 555 pc then (bif Nat.beq pc 555 then some (.lshl, 0, 0, 0, none, none, []) else none) else (bif Nat.beq pc 553 then some (.iload 8, 0, 0, 0, none, none, []) else none)))) else (bif Nat.ble 549 pc then (bif Nat.ble 551 pc then (bif Nat.ble 552 pc then (bif Nat.beq pc 552 then some (.lconst 1, 0, 0, 0, none, none, []) else none) else (bif Nat.beq pc 551 then some (.laload, 0, 0, 0, none, none, []) else none)) else (bif Nat.ble 550 pc then (bif Nat.beq pc 550 then some (.dup2, 0, 0, 0, none, none, []) else none) else (bif Nat.beq pc 549 then some (.iconst 0, 0, 0, 0, none, none, []) else none))) else (bif Nat.ble 545 pc then (bif Nat.ble 548 pc then (bif Nat.beq pc 548 then some (.aload_n 2, 0, 0, 0, none, none, []) else none) else (bif Nat.beq pc 545 then some (.ifCond .eq 13, 558, 0, 0, none, some [0, 1, 2, 3, 4, 5, 7], []) else none)) else (bif Nat.ble 543 pc then (bif Nat.beq pc 543 then some (.iload 9, 0, 0, 0, none, none, []) else none) else (bif Nat.beq pc 542 then some (.ireturn, 0, 0, 0, none, none, []) else none))))) else (bif Nat.ble 527 pc then (bif Nat.ble 533 pc then (bif Nat.ble 538 pc then (bif Nat.ble 541 pc then (bif Nat.beq pc 541 then some (.iconst 0, 0, 0, 0, none, none, []) else none) else (bif Nat.beq pc 538 then some (.if_icmp .eq 5, 543, 0, 0, none, some [0, 1, 2, 3, 4, 5, 7, 8, 9], []) else none)) else (bif Nat.ble 536 pc then (bif Nat.beq pc 536 then some (.bipush (-3), 0, 0, 0, some [0, 1, 2, 3, 4, 5, 7, 8, 9], none, []) else none) else (bif Nat.beq pc 533 then some (.goto 5, 538, 0, 0, none, some [0, 1, 2, 3, 4, 5, 7, 8, 9], []) else none))) else (bif Nat.ble 531 pc then (bif Nat.ble 532 pc then (bif Nat.beq pc 532 then some (.isub, 0, 0, 0, none, none, []) else none) else (bif Nat.beq pc 531 then some (.iconst 1, 0, 0, 0, none, none, []) else none)) else (bif Nat.ble 530 pc then (bif Nat.beq pc 530 then some (.isub, 0, 0, 0, none, none, []) else none) else (bif Nat.beq pc 527 then some (.invokestatic 185, 85, 0, 30177, none, none, []) else none)))) else (bif Nat.ble 523 pc then (bif Nat.ble 525 pc then (bif Nat.ble 526 pc then (bif Nat.beq pc 526 then some (.laload, 0, 0, 0, none, none, []) else none) else (bif Nat.beq pc 525 then some (.iconst 0, 0, 0, 0, none, none, []) else none)) else (bif Nat.ble 524 pc then (bif Nat.beq pc 524 then some (.aload_n 2, 0, 0, 0, none, none, []) else none) else (bif Nat.beq pc 523 then some (.iload_n 3, 0, 0, 0, none, none, []) else none))) else (bif Nat.ble 518 pc then (bif Nat.ble 520 pc then (bif Nat.beq pc 520 then some (.ifCond .eq 16, 536, 0, 0, none, some [0, 1, 2, 3, 4, 5, 7, 8, 9], []) else none) else (bif Nat.beq pc 518 then some (.iload 9, 0, 0, 0, none, none, []) else none)) else (bif Nat.beq pc 515 then some (.invokevirtual 182, 58, 0, 10225, none, none, []) else none))))) else (bif Nat.ble 492 pc then (bif Nat.ble 501 pc then (bif Nat.ble 507 pc then (bif Nat.ble 512 pc then (bif Nat.ble 513 pc then (bif Nat.beq pc 513 then some (.iload 8, 0, 0, 0, none, none, []) else none) else (bif Nat.beq pc 512 then some (.aload_n 1, 0, 0, 0, none, none, []) else none)) else (bif Nat.ble 510 pc then (bif Nat.beq pc 510 then some (.istore 9, 0, 0, 0, none, none, []) else none) else (bif Nat.beq pc 507 then some (.invokestatic 134, 127, 0, 30171, none, none, []) else none))) else (bif Nat.ble 504 pc then (bif Nat.ble 505 pc then (bif Nat.beq pc 505 then some (.iload 8, 0, 0, 0, none, none, []) else none) else (bif Nat.beq pc 504 then some (.aload_n 2, 0, 0, 0, none, none, []) else none)) else (bif Nat.ble 503 pc then (bif Nat.beq pc 503 then some (.aload_n 0, 0, 0, 0, none, none, []) else none) else (bif Nat.beq pc 501 then some (.istore 8, 0, 0, 0, none, none, []) else none)))) else (bif Nat.ble 497 pc then (bif Nat.ble 499 pc then (bif Nat.ble 500 pc then (bif Nat.beq pc 500 then some (.irem, 0, 0, 0, none, none, []) else none) else (bif Nat.beq pc 499 then some (.iload_n 3, 0, 0, 0, none, none, []) else none)) else (bif Nat.ble 498 pc then (bif Nat.beq pc 498 then some (.iand, 0, 0, 0, none, none, []) else none) else (bif Nat.beq pc 497 then some (.iconst 3, 0, 0, 0, none, none, []) else none))) else (bif Nat.ble 495 pc then (bif Nat.ble 496 pc then (bif Nat.beq pc 496 then some (.ishr, 0, 0, 0, none, none, []) else none) else (bif Nat.beq pc 495 then some (.imul, 0, 0, 0, none, none, []) else none)) else (bif Nat.ble 493 pc then (bif Nat.beq pc 493 then some (.iload 7, 0, 0, 0, none, none, []) else none) else (bif Nat.beq pc 492 then some (.iconst 2, 0, 0, 0, none, none, []) else none))))) else (bif Nat.ble 477 pc then (bif Nat.ble 483 pc then (bif Nat.ble 487 pc then (bif Nat.ble 489 pc then (bif Nat.beq pc 489 then some (.invokestatic 80, 109, 0, 20076, none, none, []) else none) else (bif Nat.beq pc 487 then some (.bipush 10, 0, 0, 0, none, none, []) else none)) else (bif Nat.ble 486 pc then (bif Nat.beq pc 486 then some (.aload_n 0, 0, 0, 0, none, none, []) else none) else (bif Nat.beq pc 483 then some (.if_icmp .ge 113, 596, 0, 0, none, some [0, 1, 2, 3, 4, 5], []) else none))) else (bif Nat.ble 480 pc then (bif Nat.ble 482 pc then (bif Nat.beq pc 482 then some (.iconst 5, 0, 0, 0, none, none, []) else none) else (bif Nat.beq pc 480 then some (.iload 7, 0, 0, 0, none, none, []) else none)) else (bif Nat.ble 478 pc then (bif Nat.beq pc 478 then some (.istore 7, 0, 0, 0, some [0, 1, 2, 3, 4, 5, 7], none, []) else none) else (bif Nat.beq pc 477 then some (.iconst 0, 0, 0, 0, none, none, []) else none)))) else (bif Nat.ble 469 pc then (bif Nat.ble 471 pc then (bif Nat.ble 474 pc then (bif Nat.beq pc 474 then some (.goto (-103), 371, 0, 0, none, some [0, 1, 2, 3, 4, 5, 6, 7], []) else none) else (bif Nat.beq pc 471 then some (.iinc 7 1, 0, 0, 0, none, none, []) else none)) else (bif Nat.ble 470 pc then (bif Nat.beq pc 470 then some (.ireturn, 0, 0, 0, none, none, []) else none) else (bif Nat.beq pc 469 then some (.iconst 0, 0, 0, 0, none, none, []) else none))) else (bif Nat.ble 463 pc then (bif Nat.ble 466 pc then (bif Nat.beq pc 466 then some (.ifCond .eq 5, 471, 0, 0, some [], some [0, 1, 2, 3, 4, 5, 6, 7], []) else none) else (bif Nat.beq pc 463 then some (.invokevirtual 179, 62, 0, 20040, none, none, []) else none)) else (bif Nat.beq pc 462 then some (.iconst 1, 0, 0, 0, none, none, []) else none)))))))) else (bif Nat.ble 226 pc then (bif Nat.ble 344 pc then (bif Nat.ble 402 pc then (bif Nat.ble 433 pc then (bif Nat.ble 450 pc then (bif Nat.ble 455 pc then (bif Nat.ble 459 pc then (bif Nat.ble 460 pc then (bif Nat.beq pc 460 then some (.iload 7, 0, 0, 0, none, none, []) else none) else (bif Nat.beq pc 459 then some (.aload_n 1, 0, 0, 0, none, none, []) else none)) else (bif Nat.ble 456 pc then (bif Nat.beq pc 456 then some (.if_icmp .ne 15, 471, 0, 0, none, some [0, 1, 2, 3, 4, 5, 6, 7], []) else none) else (bif Nat.beq pc 455 then some (.iconst 1, 0, 0, 0, none, none, []) else none))) else (bif Nat.ble 453 pc then (bif Nat.ble 454 pc then (bif Nat.beq pc 454 then some (.iand, 0, 0, 0, none, none, []) else none) else (bif Nat.beq pc 453 then some (.iconst 1, 0, 0, 0, none, none, []) else none)) else (bif Nat.ble 452 pc then (bif Nat.beq pc 452 then some (.ishr, 0, 0, 0, none, none, []) else none) else (bif Nat.beq pc 450 then some (.iload 7, 0, 0, 0, none, none, []) else none)))) else (bif Nat.ble 441 pc then (bif Nat.ble 445 pc then (bif Nat.ble 448 pc then (bif Nat.beq pc 448 then some (.iload 6, 0, 0, 0, none, none, []) else none) else (bif Nat.beq pc 445 then some (.ifCond .lt 24, 469, 0, 0, some [0, 1, 2, 3, 4, 5, 6, 7], some [], []) else none)) else (bif Nat.ble 442 pc then (bif Nat.beq pc 442 then some (.invokevirtual 179, 62, 0, 20040, none, none, []) else none) else (bif Nat.beq pc 441 then some (.iconst 1, 0, 0, 0, none, none, []) else none))) else (bif Nat.ble 438 pc then (bif Nat.ble 439 pc then (bif Nat.beq pc 439 then some (.iload 7, 0, 0, 0, none, none, []) else none) else (bif Nat.beq pc 438 then some (.aload_n 1, 0, 0, 0, none, none, []) else none)) else (bif Nat.ble 435 pc then (bif Nat.beq pc 435 then some (.ifCond .eq 13, 448, 0, 0, none, some [0, 1, 2, 3, 4, 5, 6, 7], []) else none) else (bif Nat.beq pc 433 then some (.iload 8, 0, 0, 0, none, none, []) else none))))) else (bif Nat.ble 418 pc then (bif Nat.ble 427 pc then (bif Nat.ble 431 pc then (bif Nat.ble 432 pc then (bif Nat.beq pc 432 then some (.ireturn, 0, 0, 0, none, none, []) else none) else (bif Nat.beq pc 431 then some (.iconst 0, 0, 0, 0, none, none, []) else none)) else (bif Nat.ble 428 pc then (bif Nat.beq pc 428 then some (.if_icmp .ne 5, 433, 0, 0, some [], some [0, 1, 2, 3, 4, 5, 6, 7, 8], []) else none) else (bif Nat.beq pc 427 then some (.iconst 5, 0, 0, 0, none, none, []) else none))) else (bif Nat.ble 422 pc then (bif Nat.ble 424 pc then (bif Nat.beq pc 424 then some (.invokestatic 30, 115, 0, 20085, none, none, []) else none) else (bif Nat.beq pc 422 then some (.iload 7, 0, 0, 0, none, none, []) else none)) else (bif Nat.ble 421 pc then (bif Nat.beq pc 421 then some (.aload_n 0, 0, 0, 0, none, none, []) else none) else (bif Nat.beq pc 418 then some (.ifCond .eq 15, 433, 0, 0, none, some [0, 1, 2, 3, 4, 5, 6, 7, 8], []) else none)))) else (bif Nat.ble 409 pc then (bif Nat.ble 413 pc then (bif Nat.ble 416 pc then (bif Nat.beq pc 416 then some (.iload 8, 0, 0, 0, none, none, []) else none) else (bif Nat.beq pc 413 then some (.if_icmp .ne 18, 431, 0, 0, none, some [], []) else none)) else (bif Nat.ble 412 pc then (bif Nat.beq pc 412 then some (.iconst 0, 0, 0, 0, some [0, 1, 2, 3, 4, 5, 6, 7, 8], none, []) else none) else (bif Nat.beq pc 409 then some (.goto 4, 413, 0, 0, none, some [0, 1, 2, 3, 4, 5, 6, 7, 8], []) else none))) else (bif Nat.ble 405 pc then (bif Nat.ble 408 pc then (bif Nat.beq pc 408 then some (.iconst 1, 0, 0, 0, none, none, []) else none) else (bif Nat.beq pc 405 then some (.ifCond .ne 7, 412, 0, 0, none, some [0, 1, 2, 3, 4, 5, 6, 7, 8], []) else none)) else (bif Nat.beq pc 402 then some (.invokevirtual 176, 63, 0, 20064, none, none, []) else none))))) else (bif Nat.ble 374 pc then (bif Nat.ble 389 pc then (bif Nat.ble 396 pc then (bif Nat.ble 399 pc then (bif Nat.ble 401 pc then (bif Nat.beq pc 401 then some (.iconst 0, 0, 0, 0, none, none, []) else none) else (bif Nat.beq pc 399 then some (.iload 7, 0, 0, 0, none, none, []) else none)) else (bif Nat.ble 398 pc then (bif Nat.beq pc 398 then some (.aload_n 1, 0, 0, 0, none, none, []) else none) else (bif Nat.beq pc 396 then some (.iload 8, 0, 0, 0, none, none, []) else none))) else (bif Nat.ble 393 pc then (bif Nat.ble 394 pc then (bif Nat.beq pc 394 then some (.istore 8, 0, 0, 0, none, none, []) else none) else (bif Nat.beq pc 393 then some (.iconst 0, 0, 0, 0, some [0, 1, 2, 3, 4, 5, 6, 7], none, []) else none)) else (bif Nat.ble 390 pc then (bif Nat.beq pc 390 then some (.goto 4, 394, 0, 0, none, some [0, 1, 2, 3, 4, 5, 6, 7], []) else none) else (bif Nat.beq pc 389 then some (.iconst 1, 0, 0, 0, none, none, []) else none)))) else (bif Nat.ble 383 pc then (bif Nat.ble 385 pc then (bif Nat.ble 386 pc then (bif Nat.beq pc 386 then some (.ifCond .ne 7, 393, 0, 0, none, some [0, 1, 2, 3, 4, 5, 6, 7], []) else none) else (bif Nat.beq pc 385 then some (.iand, 0, 0, 0, none, none, []) else none)) else (bif Nat.ble 384 pc then (bif Nat.beq pc 384 then some (.iconst 1, 0, 0, 0, none, none, []) else none) else (bif Nat.beq pc 383 then some (.ishr, 0, 0, 0, none, none, []) else none))) else (bif Nat.ble 378 pc then (bif Nat.ble 381 pc then (bif Nat.beq pc 381 then some (.iload 7, 0, 0, 0, none, none, []) else none) else (bif Nat.beq pc 378 then some (.invokevirtual 166, 61, 0, 20030, none, none, []) else none)) else (bif Nat.ble 377 pc then (bif Nat.beq pc 377 then some (.aload_n 1, 0, 0, 0, none, none, []) else none) else (bif Nat.beq pc 374 then some (.if_icmp .ge 103, 477, 0, 0, none, some [0, 1, 2, 3, 4, 5], []) else none))))) else (bif Nat.ble 360 pc then (bif Nat.ble 368 pc then (bif Nat.ble 371 pc then (bif Nat.ble 373 pc then (bif Nat.beq pc 373 then some (.iload_n 3, 0, 0, 0, none, none, []) else none) else (bif Nat.beq pc 371 then some (.iload 7, 0, 0, 0, none, none, []) else none)) else (bif Nat.ble 369 pc then (bif Nat.beq pc 369 then some (.istore 7, 0, 0, 0, some [0, 1, 2, 3, 4, 5, 6, 7], none, []) else none) else (bif Nat.beq pc 368 then some (.iconst 0, 0, 0, 0, none, none, []) else none))) else (bif Nat.ble 362 pc then (bif Nat.ble 365 pc then (bif Nat.beq pc 365 then some (.goto (-108), 257, 0, 0, none, some [0, 1, 2, 3, 4, 5, 6, 7], []) else none) else (bif Nat.beq pc 362 then some (.iinc 7 1, 0, 0, 0, none, none, []) else none)) else (bif Nat.ble 361 pc then (bif Nat.beq pc 361 then some (.ireturn, 0, 0, 0, none, none, []) else none) else (bif Nat.beq pc 360 then some (.iconst 0, 0, 0, 0, none, none, []) else none)))) else (bif Nat.ble 352 pc then (bif Nat.ble 356 pc then (bif Nat.ble 357 pc then (bif Nat.beq pc 357 then some (.if_icmp .eq 5, 362, 0, 0, some [], some [0, 1, 2, 3, 4, 5, 6, 7], []) else none) else (bif Nat.beq pc 356 then some (.iconst 1, 0, 0, 0, some [0, 1, 2, 3, 4, 5, 6, 7], none, []) else none)) else (bif Nat.ble 353 pc then (bif Nat.beq pc 353 then some (.goto 4, 357, 0, 0, none, some [0, 1, 2, 3, 4, 5, 6, 7], []) else none) else (bif Nat.beq pc 352 then some (.iconst 0, 0, 0, 0, none, none, []) else none))) else (bif Nat.ble 346 pc then (bif Nat.ble 349 pc then (bif Nat.beq pc 349 then some (.ifCond .eq 7, 356, 0, 0, none, some [0, 1, 2, 3, 4, 5, 6, 7], []) else none) else (bif Nat.beq pc 346 then some (.invokestatic 59, 121, 0, 20156, none, none, []) else none)) else (bif Nat.beq pc 344 then some (.iload 7, 0, 0, 0, none, none, []) else none)))))) else (bif Nat.ble 283 pc then (bif Nat.ble 313 pc then (bif Nat.ble 329 pc then (bif Nat.ble 337 pc then (bif Nat.ble 340 pc then (bif Nat.ble 343 pc then (bif Nat.beq pc 343 then some (.aload_n 0, 0, 0, 0, none, none, []) else none) else (bif Nat.beq pc 340 then some (.invokevirtual 173, 55, 0, 10188, none, none, []) else none)) else (bif Nat.ble 339 pc then (bif Nat.beq pc 339 then some (.iconst 4, 0, 0, 0, none, none, []) else none) else (bif Nat.beq pc 337 then some (.iload 7, 0, 0, 0, none, none, []) else none))) else (bif Nat.ble 333 pc then (bif Nat.ble 336 pc then (bif Nat.beq pc 336 then some (.aload_n 1, 0, 0, 0, none, none, []) else none) else (bif Nat.beq pc 333 then some (.if_icmp .ne 27, 360, 0, 0, none, some [], []) else none)) else (bif Nat.ble 332 pc then (bif Nat.beq pc 332 then some (.iconst 0, 0, 0, 0, some [0, 1, 2, 3, 4, 5, 6, 7], none, []) else none) else (bif Nat.beq pc 329 then some (.goto 4, 333, 0, 0, none, some [0, 1, 2, 3, 4, 5, 6, 7], []) else none)))) else (bif Nat.ble 320 pc then (bif Nat.ble 325 pc then (bif Nat.ble 328 pc then (bif Nat.beq pc 328 then some (.iconst 1, 0, 0, 0, none, none, []) else none) else (bif Nat.beq pc 325 then some (.ifCond .eq 7, 332, 0, 0, none, some [0, 1, 2, 3, 4, 5, 6, 7], []) else none)) else (bif Nat.ble 322 pc then (bif Nat.beq pc 322 then some (.invokestatic 59, 121, 0, 20156, none, none, []) else none) else (bif Nat.beq pc 320 then some (.iload 7, 0, 0, 0, none, none, []) else none))) else (bif Nat.ble 316 pc then (bif Nat.ble 319 pc then (bif Nat.beq pc 319 then some (.aload_n 0, 0, 0, 0, none, none, []) else none) else (bif Nat.beq pc 316 then some (.invokevirtual 173, 55, 0, 10188, none, none, []) else none)) else (bif Nat.ble 315 pc then (bif Nat.beq pc 315 then some (.iconst 3, 0, 0, 0, none, none, []) else none) else (bif Nat.beq pc 313 then some (.iload 7, 0, 0, 0, none, none, []) else none))))) else (bif Nat.ble 297 pc then (bif Nat.ble 304 pc then (bif Nat.ble 309 pc then (bif Nat.ble 312 pc then (bif Nat.beq pc 312 then some (.aload_n 1, 0, 0, 0, none, none, []) else none) else (bif Nat.beq pc 309 then some (.if_icmp .ne 51, 360, 0, 0, none, some [], []) else none)) else (bif Nat.ble 306 pc then (bif Nat.beq pc 306 then some (.invokestatic 53, 120, 0, 20134, none, none, []) else none) else (bif Nat.beq pc 304 then some (.iload 7, 0, 0, 0, none, none, []) else none))) else (bif Nat.ble 300 pc then (bif Nat.ble 303 pc then (bif Nat.beq pc 303 then some (.aload_n 0, 0, 0, 0, none, none, []) else none) else (bif Nat.beq pc 300 then some (.invokevirtual 173, 55, 0, 10188, none, none, []) else none)) else (bif Nat.ble 299 pc then (bif Nat.beq pc 299 then some (.iconst 2, 0, 0, 0, none, none, []) else none) else (bif Nat.beq pc 297 then some (.iload 7, 0, 0, 0, none, none, []) else none)))) else (bif Nat.ble 288 pc then (bif Nat.ble 293 pc then (bif Nat.ble 296 pc then (bif Nat.beq pc 296 then some (.aload_n 1, 0, 0, 0, none, none, []) else none) else (bif Nat.beq pc 293 then some (.if_icmp .ne 67, 360, 0, 0, none, some [], []) else none)) else (bif Nat.ble 290 pc then (bif Nat.beq pc 290 then some (.invokestatic 50, 119, 0, 20131, none, none, []) else none) else (bif Nat.beq pc 288 then some (.iload 7, 0, 0, 0, none, none, []) else none))) else (bif Nat.ble 284 pc then (bif Nat.ble 287 pc then (bif Nat.beq pc 287 then some (.aload_n 0, 0, 0, 0, none, none, []) else none) else (bif Nat.beq pc 284 then some (.invokevirtual 173, 55, 0, 10188, none, none, []) else none)) else (bif Nat.beq pc 283 then some (.iconst 1, 0, 0, 0, none, none, []) else none))))) else (bif Nat.ble 253 pc then (bif Nat.ble 267 pc then (bif Nat.ble 274 pc then (bif Nat.ble 280 pc then (bif Nat.ble 281 pc then (bif Nat.beq pc 281 then some (.iload 7, 0, 0, 0, none, none, []) else none) else (bif Nat.beq pc 280 then some (.aload_n 1, 0, 0, 0, none, none, []) else none)) else (bif Nat.ble 277 pc then (bif Nat.beq pc 277 then some (.if_icmp .ne 83, 360, 0, 0, none, some [], []) else none) else (bif Nat.beq pc 274 then some (.invokestatic 47, 118, 0, 20128, none, none, []) else none))) else (bif Nat.ble 271 pc then (bif Nat.ble 272 pc then (bif Nat.beq pc 272 then some (.iload 7, 0, 0, 0, none, none, []) else none) else (bif Nat.beq pc 271 then some (.aload_n 0, 0, 0, 0, none, none, []) else none)) else (bif Nat.ble 268 pc then (bif Nat.beq pc 268 then some (.invokevirtual 173, 55, 0, 10188, none, none, []) else none) else (bif Nat.beq pc 267 then some (.iconst 0, 0, 0, 0, none, none, []) else none)))) else (bif Nat.ble 259 pc then (bif Nat.ble 264 pc then (bif Nat.ble 265 pc then (bif Nat.beq pc 265 then some (.iload 7, 0, 0, 0, none, none, []) else none) else (bif Nat.beq pc 264 then some (.aload_n 1, 0, 0, 0, none, none, []) else none)) else (bif Nat.ble 261 pc then (bif Nat.beq pc 261 then some (.if_icmp .ge 107, 368, 0, 0, none, some [0, 1, 2, 3, 4, 5, 6], []) else none) else (bif Nat.beq pc 259 then some (.iload 4, 0, 0, 0, none, none, []) else none))) else (bif Nat.ble 255 pc then (bif Nat.ble 257 pc then (bif Nat.beq pc 257 then some (.iload 7, 0, 0, 0, none, none, []) else none) else (bif Nat.beq pc 255 then some (.istore 7, 0, 0, 0, some [0, 1, 2, 3, 4, 5, 6, 7], none, []) else none)) else (bif Nat.ble 254 pc then (bif Nat.beq pc 254 then some (.iconst 0, 0, 0, 0, none, none, []) else none) else (bif Nat.beq pc 253 then some (.ireturn, 0, 0, 0, none, none, []) else none))))) else (bif Nat.ble 241 pc then (bif Nat.ble 247 pc then (bif Nat.ble 249 pc then (bif Nat.ble 252 pc then (bif Nat.beq pc 252 then some (.iconst 0, 0, 0, 0, none, none, []) else none) else (bif Nat.beq pc 249 then some (.if_icmp .eq 5, 254, 0, 0, some [], some [0, 1, 2, 3, 4, 5, 6], []) else none)) else (bif Nat.ble 248 pc then (bif Nat.beq pc 248 then some (.iand, 0, 0, 0, none, none, []) else none) else (bif Nat.beq pc 247 then some (.ixor, 0, 0, 0, none, none, []) else none))) else (bif Nat.ble 243 pc then (bif Nat.ble 246 pc then (bif Nat.beq pc 246 then some (.iconst (-1), 0, 0, 0, none, none, []) else none) else (bif Nat.beq pc 243 then some (.invokestatic 169, 128, 0, 30174, none, none, []) else none)) else (bif Nat.ble 242 pc then (bif Nat.beq pc 242 then some (.aload_n 2, 0, 0, 0, none, none, []) else none) else (bif Nat.beq pc 241 then some (.aload_n 0, 0, 0, 0, none, none, []) else none)))) else (bif Nat.ble 232 pc then (bif Nat.ble 236 pc then (bif Nat.ble 239 pc then (bif Nat.beq pc 239 then some (.iload 5, 0, 0, 0, none, none, []) else none) else (bif Nat.beq pc 236 then some (.invokevirtual 166, 61, 0, 20030, none, none, []) else none)) else (bif Nat.ble 235 pc then (bif Nat.beq pc 235 then some (.aload_n 1, 0, 0, 0, none, none, []) else none) else (bif Nat.beq pc 232 then some (.if_icmp .ne 20, 252, 0, 0, none, some [], []) else none))) else (bif Nat.ble 227 pc then (bif Nat.ble 230 pc then (bif Nat.beq pc 230 then some (.iload 6, 0, 0, 0, none, none, []) else none) else (bif Nat.beq pc 227 then some (.invokevirtual 163, 57, 0, 10213, none, none, []) else none)) else (bif Nat.beq pc 226 then some (.aload_n 1, 0, 0, 0, none, none, []) else none))))))) else (bif Nat.ble 108 pc then (bif Nat.ble 163 pc then (bif Nat.ble 193 pc then (bif Nat.ble 209 pc then (bif Nat.ble 218 pc then (bif Nat.ble 220 pc then (bif Nat.ble 223 pc then (bif Nat.beq pc 223 then some (.goto (-183), 40, 0, 0, none, some [0, 1, 2, 3, 4, 5, 6, 7], []) else none) else (bif Nat.beq pc 220 then some (.iinc 7 1, 0, 0, 0, none, none, []) else none)) else (bif Nat.ble 219 pc then (bif Nat.beq pc 219 then some (.ireturn, 0, 0, 0, none, none, []) else none) else (bif Nat.beq pc 218 then some (.iconst 0, 0, 0, 0, none, none, []) else none))) else (bif Nat.ble 212 pc then (bif Nat.ble 215 pc then (bif Nat.beq pc 215 then some (.ifCond .eq 5, 220, 0, 0, some [], some [0, 1, 2, 3, 4, 5, 6, 7], []) else none) else (bif Nat.beq pc 212 then some (.invokevirtual 160, 53, 0, 10173, none, none, []) else none)) else (bif Nat.ble 211 pc then (bif Nat.beq pc 211 then some (.iconst 3, 0, 0, 0, none, none, []) else none) else (bif Nat.beq pc 209 then some (.iload 7, 0, 0, 0, none, none, []) else none)))) else (bif Nat.ble 200 pc then (bif Nat.ble 205 pc then (bif Nat.ble 208 pc then (bif Nat.beq pc 208 then some (.aload_n 1, 0, 0, 0, none, none, []) else none) else (bif Nat.beq pc 205 then some (.if_icmp .ne 13, 218, 0, 0, none, some [], []) else none)) else (bif Nat.ble 202 pc then (bif Nat.beq pc 202 then some (.invokestatic 37, 117, 0, 20091, none, none, []) else none) else (bif Nat.beq pc 200 then some (.iload 7, 0, 0, 0, none, none, []) else none))) else (bif Nat.ble 196 pc then (bif Nat.ble 199 pc then (bif Nat.beq pc 199 then some (.aload_n 0, 0, 0, 0, none, none, []) else none) else (bif Nat.beq pc 196 then some (.invokevirtual 160, 53, 0, 10173, none, none, []) else none)) else (bif Nat.ble 195 pc then (bif Nat.beq pc 195 then some (.iconst 2, 0, 0, 0, none, none, []) else none) else (bif Nat.beq pc 193 then some (.iload 7, 0, 0, 0, none, none, []) else none))))) else (bif Nat.ble 177 pc then (bif Nat.ble 184 pc then (bif Nat.ble 189 pc then (bif Nat.ble 192 pc then (bif Nat.beq pc 192 then some (.aload_n 1, 0, 0, 0, none, none, []) else none) else (bif Nat.beq pc 189 then some (.if_icmp .ne 29, 218, 0, 0, none, some [], []) else none)) else (bif Nat.ble 186 pc then (bif Nat.beq pc 186 then some (.invokestatic 34, 116, 0, 20088, none, none, []) else none) else (bif Nat.beq pc 184 then some (.iload 7, 0, 0, 0, none, none, []) else none))) else (bif Nat.ble 180 pc then (bif Nat.ble 183 pc then (bif Nat.beq pc 183 then some (.aload_n 0, 0, 0, 0, none, none, []) else none) else (bif Nat.beq pc 180 then some (.invokevirtual 160, 53, 0, 10173, none, none, []) else none)) else (bif Nat.ble 179 pc then (bif Nat.beq pc 179 then some (.iconst 1, 0, 0, 0, none, none, []) else none) else (bif Nat.beq pc 177 then some (.iload 7, 0, 0, 0, none, none, []) else none)))) else (bif Nat.ble 168 pc then (bif Nat.ble 173 pc then (bif Nat.ble 176 pc then (bif Nat.beq pc 176 then some (.aload_n 1, 0, 0, 0, none, none, []) else none) else (bif Nat.beq pc 173 then some (.if_icmp .ne 45, 218, 0, 0, none, some [], []) else none)) else (bif Nat.ble 170 pc then (bif Nat.beq pc 170 then some (.invokestatic 30, 115, 0, 20085, none, none, []) else none) else (bif Nat.beq pc 168 then some (.iload 7, 0, 0, 0, none, none, []) else none))) else (bif Nat.ble 164 pc then (bif Nat.ble 167 pc then (bif Nat.beq pc 167 then some (.aload_n 0, 0, 0, 0, none, none, []) else none) else (bif Nat.beq pc 164 then some (.invokevirtual 160, 53, 0, 10173, none, none, []) else none)) else (bif Nat.beq pc 163 then some (.iconst 0, 0, 0, 0, none, none, []) else none))))) else (bif Nat.ble 136 pc then (bif Nat.ble 150 pc then (bif Nat.ble 157 pc then (bif Nat.ble 160 pc then (bif Nat.ble 161 pc then (bif Nat.beq pc 161 then some (.iload 7, 0, 0, 0, none, none, []) else none) else (bif Nat.beq pc 160 then some (.aload_n 1, 0, 0, 0, none, none, []) else none)) else (bif Nat.ble 158 pc then (bif Nat.beq pc 158 then some (.istore 6, 0, 0, 0, none, none, []) else none) else (bif Nat.beq pc 157 then some (.ior, 0, 0, 0, none, none, []) else none))) else (bif Nat.ble 153 pc then (bif Nat.ble 156 pc then (bif Nat.beq pc 156 then some (.iconst 0, 0, 0, 0, some [0, 1, 2, 3, 4, 5, 7], none, []) else none) else (bif Nat.beq pc 153 then some (.goto 4, 157, 0, 0, none, some [0, 1, 2, 3, 4, 5, 7], []) else none)) else (bif Nat.ble 152 pc then (bif Nat.beq pc 152 then some (.ishl, 0, 0, 0, none, none, []) else none) else (bif Nat.beq pc 150 then some (.iload 7, 0, 0, 0, none, none, []) else none)))) else (bif Nat.ble 141 pc then (bif Nat.ble 146 pc then (bif Nat.ble 149 pc then (bif Nat.beq pc 149 then some (.iconst 1, 0, 0, 0, none, none, []) else none) else (bif Nat.beq pc 146 then some (.ifCond .eq 10, 156, 0, 0, none, some [0, 1, 2, 3, 4, 5, 7], []) else none)) else (bif Nat.ble 143 pc then (bif Nat.beq pc 143 then some (.invokestatic 134, 127, 0, 30171, none, none, []) else none) else (bif Nat.beq pc 141 then some (.iload 7, 0, 0, 0, none, none, []) else none))) else (bif Nat.ble 139 pc then (bif Nat.ble 140 pc then (bif Nat.beq pc 140 then some (.aload_n 2, 0, 0, 0, none, none, []) else none) else (bif Nat.beq pc 139 then some (.aload_n 0, 0, 0, 0, none, none, []) else none)) else (bif Nat.ble 137 pc then (bif Nat.beq pc 137 then some (.iload 6, 0, 0, 0, none, none, []) else none) else (bif Nat.beq pc 136 then some (.ireturn, 0, 0, 0, none, none, []) else none))))) else (bif Nat.ble 124 pc then (bif Nat.ble 130 pc then (bif Nat.ble 132 pc then (bif Nat.ble 135 pc then (bif Nat.beq pc 135 then some (.iconst 0, 0, 0, 0, none, none, []) else none) else (bif Nat.beq pc 132 then some (.if_icmp .ne 5, 137, 0, 0, some [], some [0, 1, 2, 3, 4, 5, 6, 7], []) else none)) else (bif Nat.ble 131 pc then (bif Nat.beq pc 131 then some (.iconst 1, 0, 0, 0, none, none, []) else none) else (bif Nat.beq pc 130 then some (.iand, 0, 0, 0, none, none, []) else none))) else (bif Nat.ble 128 pc then (bif Nat.ble 129 pc then (bif Nat.beq pc 129 then some (.iconst 1, 0, 0, 0, none, none, []) else none) else (bif Nat.beq pc 128 then some (.ishr, 0, 0, 0, none, none, []) else none)) else (bif Nat.ble 126 pc then (bif Nat.beq pc 126 then some (.iload 7, 0, 0, 0, none, none, []) else none) else (bif Nat.beq pc 124 then some (.iload 9, 0, 0, 0, none, none, []) else none)))) else (bif Nat.ble 114 pc then (bif Nat.ble 119 pc then (bif Nat.ble 121 pc then (bif Nat.beq pc 121 then some (.if_icmp .ne 14, 135, 0, 0, none, some [], []) else none) else (bif Nat.beq pc 119 then some (.iload 9, 0, 0, 0, none, none, []) else none)) else (bif Nat.ble 116 pc then (bif Nat.beq pc 116 then some (.invokevirtual 157, 60, 0, 20021, none, none, []) else none) else (bif Nat.beq pc 114 then some (.iload 7, 0, 0, 0, none, none, []) else none))) else (bif Nat.ble 110 pc then (bif Nat.ble 113 pc then (bif Nat.beq pc 113 then some (.aload_n 1, 0, 0, 0, none, none, []) else none) else (bif Nat.beq pc 110 then some (.if_icmp .ne 25, 135, 0, 0, none, some [], []) else none)) else (bif Nat.beq pc 108 then some (.iload 8, 0, 0, 0, none, none, []) else none)))))) else (bif Nat.ble 50 pc then (bif Nat.ble 77 pc then (bif Nat.ble 92 pc then (bif Nat.ble 99 pc then (bif Nat.ble 103 pc then (bif Nat.ble 105 pc then (bif Nat.beq pc 105 then some (.invokevirtual 155, 56, 0, 10200, none, none, []) else none) else (bif Nat.beq pc 103 then some (.iload 7, 0, 0, 0, none, none, []) else none)) else (bif Nat.ble 102 pc then (bif Nat.beq pc 102 then some (.aload_n 1, 0, 0, 0, none, none, []) else none) else (bif Nat.beq pc 99 then some (.goto (-38), 61, 0, 0, none, some [0, 1, 2, 3, 4, 5, 6, 7, 8, 9, 10], []) else none))) else (bif Nat.ble 94 pc then (bif Nat.ble 96 pc then (bif Nat.beq pc 96 then some (.iinc 10 1, 0, 0, 0, none, none, []) else none) else (bif Nat.beq pc 94 then some (.istore 9, 0, 0, 0, none, none, []) else none)) else (bif Nat.ble 93 pc then (bif Nat.beq pc 93 then some (.ior, 0, 0, 0, none, none, []) else none) else (bif Nat.beq pc 92 then some (.iconst 0, 0, 0, 0, some [0, 1, 2, 3, 4, 5, 6, 7, 8, 10], none, []) else none)))) else (bif Nat.ble 83 pc then (bif Nat.ble 88 pc then (bif Nat.ble 89 pc then (bif Nat.beq pc 89 then some (.goto 4, 93, 0, 0, none, some [0, 1, 2, 3, 4, 5, 6, 7, 8, 10], []) else none) else (bif Nat.beq pc 88 then some (.ishl, 0, 0, 0, none, none, []) else none)) else (bif Nat.ble 85 pc then (bif Nat.beq pc 85 then some (.invokestatic 47, 118, 0, 20128, none, none, []) else none) else (bif Nat.beq pc 83 then some (.iload 10, 0, 0, 0, none, none, []) else none))) else (bif Nat.ble 81 pc then (bif Nat.ble 82 pc then (bif Nat.beq pc 82 then some (.aload_n 0, 0, 0, 0, none, none, []) else none) else (bif Nat.beq pc 81 then some (.iconst 1, 0, 0, 0, none, none, []) else none)) else (bif Nat.ble 78 pc then (bif Nat.beq pc 78 then some (.if_icmp .ne 14, 92, 0, 0, none, some [0, 1, 2, 3, 4, 5, 6, 7, 8, 10], []) else none) else (bif Nat.beq pc 77 then some (.iconst 1, 0, 0, 0, none, none, []) else none))))) else (bif Nat.ble 63 pc then (bif Nat.ble 72 pc then (bif Nat.ble 75 pc then (bif Nat.ble 76 pc then (bif Nat.beq pc 76 then some (.iand, 0, 0, 0, none, none, []) else none) else (bif Nat.beq pc 75 then some (.iconst 1, 0, 0, 0, none, none, []) else none)) else (bif Nat.ble 74 pc then (bif Nat.beq pc 74 then some (.ishr, 0, 0, 0, none, none, []) else none) else (bif Nat.beq pc 72 then some (.iload 10, 0, 0, 0, none, none, []) else none))) else (bif Nat.ble 68 pc then (bif Nat.ble 70 pc then (bif Nat.beq pc 70 then some (.iload 8, 0, 0, 0, none, none, []) else none) else (bif Nat.beq pc 68 then some (.iload 9, 0, 0, 0, none, none, []) else none)) else (bif Nat.ble 65 pc then (bif Nat.beq pc 65 then some (.if_icmp .ge 37, 102, 0, 0, none, some [0, 1, 2, 3, 4, 5, 6, 7, 8, 9], []) else none) else (bif Nat.beq pc 63 then some (.iload 4, 0, 0, 0, none, none, []) else none)))) else (bif Nat.ble 56 pc then (bif Nat.ble 59 pc then (bif Nat.ble 61 pc then (bif Nat.beq pc 61 then some (.iload 10, 0, 0, 0, none, none, []) else none) else (bif Nat.beq pc 59 then some (.istore 10, 0, 0, 0, some [0, 1, 2, 3, 4, 5, 6, 7, 8, 9, 10], none, []) else none)) else (bif Nat.ble 58 pc then (bif Nat.beq pc 58 then some (.iconst 0, 0, 0, 0, none, none, []) else none) else (bif Nat.beq pc 56 then some (.istore 9, 0, 0, 0, none, none, []) else none))) else (bif Nat.ble 53 pc then (bif Nat.ble 55 pc then (bif Nat.beq pc 55 then some (.iconst 0, 0, 0, 0, none, none, []) else none) else (bif Nat.beq pc 53 then some (.istore 8, 0, 0, 0, none, none, []) else none)) else (bif Nat.beq pc 50 then some (.invokestatic 130, 126, 0, 30163, none, none, []) else none))))) else (bif Nat.ble 27 pc then (bif Nat.ble 37 pc then (bif Nat.ble 43 pc then (bif Nat.ble 47 pc then (bif Nat.ble 48 pc then (bif Nat.beq pc 48 then some (.iload 7, 0, 0, 0, none, none, []) else none) else (bif Nat.beq pc 47 then some (.aload_n 2, 0, 0, 0, none, none, []) else none)) else (bif Nat.ble 46 pc then (bif Nat.beq pc 46 then some (.aload_n 0, 0, 0, 0, none, none, []) else none) else (bif Nat.beq pc 43 then some (.if_icmp .ge 183, 226, 0, 0, none, some [0, 1, 2, 3, 4, 5, 6], []) else none))) else (bif Nat.ble 40 pc then (bif Nat.ble 42 pc then (bif Nat.beq pc 42 then some (.iload_n 3, 0, 0, 0, none, none, []) else none) else (bif Nat.beq pc 40 then some (.iload 7, 0, 0, 0, none, none, []) else none)) else (bif Nat.ble 38 pc then (bif Nat.beq pc 38 then some (.istore 7, 0, 0, 0, some [0, 1, 2, 3, 4, 5, 6, 7], none, []) else none) else (bif Nat.beq pc 37 then some (.iconst 0, 0, 0, 0, none, none, []) else none)))) else (bif Nat.ble 31 pc then (bif Nat.ble 34 pc then (bif Nat.ble 35 pc then (bif Nat.beq pc 35 then some (.istore 6, 0, 0, 0, none, none, []) else none) else (bif Nat.beq pc 34 then some (.iconst 0, 0, 0, 0, none, none, []) else none)) else (bif Nat.ble 32 pc then (bif Nat.beq pc 32 then some (.istore 5, 0, 0, 0, none, none, []) else none) else (bif Nat.beq pc 31 then some (.isub, 0, 0, 0, none, none, []) else none))) else (bif Nat.ble 29 pc then (bif Nat.ble 30 pc then (bif Nat.beq pc 30 then some (.iconst 1, 0, 0, 0, none, none, []) else none) else (bif Nat.beq pc 29 then some (.ishl, 0, 0, 0, none, none, []) else none)) else (bif Nat.ble 28 pc then (bif Nat.beq pc 28 then some (.iload_n 3, 0, 0, 0, none, none, []) else none) else (bif Nat.beq pc 27 then some (.iconst 1, 0, 0, 0, none, none, []) else none))))) else (bif Nat.ble 12 pc then (bif Nat.ble 20 pc then (bif Nat.ble 22 pc then (bif Nat.ble 25 pc then (bif Nat.beq pc 25 then some (.istore 4, 0, 0, 0, none, none, []) else none) else (bif Nat.beq pc 22 then some (.invokestatic 44, 114, 0, 20125, none, none, []) else none)) else (bif Nat.ble 21 pc then (bif Nat.beq pc 21 then some (.aload_n 0, 0, 0, 0, none, none, []) else none) else (bif Nat.beq pc 20 then some (.istore_n 3, 0, 0, 0, none, none, []) else none))) else (bif Nat.ble 16 pc then (bif Nat.ble 17 pc then (bif Nat.beq pc 17 then some (.invokestatic 24, 113, 0, 20082, none, none, []) else none) else (bif Nat.beq pc 16 then some (.aload_n 0, 0, 0, 0, none, none, []) else none)) else (bif Nat.ble 13 pc then (bif Nat.beq pc 13 then some (.invokestatic 152, 124, 0, 30160, none, none, []) else none) else (bif Nat.beq pc 12 then some (.aload_n 2, 0, 0, 0, none, none, []) else none)))) else (bif Nat.ble 5 pc then (bif Nat.ble 10 pc then (bif Nat.ble 11 pc then (bif Nat.beq pc 11 then some (.aload_n 0, 0, 0, 0, none, none, []) else none) else (bif Nat.beq pc 10 then some (.astore_n 2, 0, 0, 0, none, none, []) else none)) else (bif Nat.ble 8 pc then (bif Nat.beq pc 8 then some (.newarray .long, 0, 0, 0, none, none, []) else none) else (bif Nat.beq pc 5 then some (.sipush 160, 0, 0, 0, none, none, []) else none))) else (bif Nat.ble 1 pc then (bif Nat.ble 4 pc then (bif Nat.beq pc 4 then some (.astore_n 1, 0, 0, 0, none, none, []) else none) else (bif Nat.beq pc 1 then some (.invokestatic 148, 111, 0, 20079, none, none, []) else none)) else (bif Nat.beq pc 0 then some (.aload_n 0, 0, 0, 0, none, none, []) else none))))))))
def am_N : Nat := 130
noncomputable def am_tb0 (y : Nat) : Nat → Option am_I := bif Nat.ble 65 y then (bif Nat.ble 97 y then (bif Nat.ble 113 y then (bif Nat.ble 121 y then (bif Nat.ble 125 y then (bif Nat.ble 127 y then (bif Nat.ble 128 y then (bif Nat.ble 129 y then (tb_129) else (tb_128)) else (tb_127)) else (bif Nat.ble 126 y then (tb_126) else (tb_125))) else (bif Nat.ble 123 y then (bif Nat.ble 124 y then (tb_124) else (tb_123)) else (bif Nat.ble 122 y then (tb_122) else (tb_121)))) else (bif Nat.ble 117 y then (bif Nat.ble 119 y then (bif Nat.ble 120 y then (tb_120) else (tb_119)) else (bif Nat.ble 118 y then (tb_118) else (tb_117))) else (bif Nat.ble 115 y then (bif Nat.ble 116 y then (tb_116) else (tb_115)) else (bif Nat.ble 114 y then (tb_114) else (tb_113))))) else (bif Nat.ble 105 y then (bif Nat.ble 109 y then (bif Nat.ble 111 y then (bif Nat.ble 112 y then (tb_112) else (tb_111)) else (bif Nat.ble 110 y then (tb_110) else (tb_109))) else (bif Nat.ble 107 y then (bif Nat.ble 108 y then (tb_108) else (tb_107)) else (bif Nat.ble 106 y then (tb_106) else (tb_105)))) else (bif Nat.ble 101 y then (bif Nat.ble 103 y then (bif Nat.ble 104 y then (tb_104) else (tb_103)) else (bif Nat.ble 102 y then (tb_102) else (tb_101))) else (bif Nat.ble 99 y then (bif Nat.ble 100 y then (tb_100) else (tb_99)) else (bif Nat.ble 98 y then (tb_98) else (tb_97)))))) else (bif Nat.ble 81 y then (bif Nat.ble 89 y then (bif Nat.ble 93 y then (bif Nat.ble 95 y then (bif Nat.ble 96 y then (tb_96) else (tb_95)) else (bif Nat.ble 94 y then (tb_94) else (tb_93))) else (bif Nat.ble 91 y then (bif Nat.ble 92 y then (tb_92) else (tb_91)) else (bif Nat.ble 90 y then (tb_90) else (tb_89)))) else (bif Nat.ble 85 y then (bif Nat.ble 87 y then (bif Nat.ble 88 y then (tb_88) else (tb_87)) else (bif Nat.ble 86 y then (tb_86) else (tb_85))) else (bif Nat.ble 83 y then (bif Nat.ble 84 y then (tb_84) else (tb_83)) else (bif Nat.ble 82 y then (tb_82) else (tb_81))))) else (bif Nat.ble 73 y then (bif Nat.ble 77 y then (bif Nat.ble 79 y then (bif Nat.ble 80 y then (tb_80) else (tb_79)) else (bif Nat.ble 78 y then (tb_78) else (tb_77))) else (bif Nat.ble 75 y then (bif Nat.ble 76 y then (tb_76) else (tb_75)) else (bif Nat.ble 74 y then (tb_74) else (tb_73)))) else (bif Nat.ble 69 y then (bif Nat.ble 71 y then (bif Nat.ble 72 y then (tb_72) else (tb_71)) else (bif Nat.ble 70 y then (tb_70) else (tb_69))) else (bif Nat.ble 67 y then (bif Nat.ble 68 y then (tb_68) else (tb_67)) else (bif Nat.ble 66 y then (tb_66) else (tb_65))))))) else (bif Nat.ble 32 y then (bif Nat.ble 48 y then (bif Nat.ble 56 y then (bif Nat.ble 60 y then (bif Nat.ble 62 y then (bif Nat.ble 63 y then (bif Nat.ble 64 y then (tb_64) else (tb_63)) else (tb_62)) else (bif Nat.ble 61 y then (tb_61) else (tb_60))) else (bif Nat.ble 58 y then (bif Nat.ble 59 y then (tb_59) else (tb_58)) else (bif Nat.ble 57 y then (tb_57) else (tb_56)))) else (bif Nat.ble 52 y then (bif Nat.ble 54 y then (bif Nat.ble 55 y then (tb_55) else (tb_54)) else (bif Nat.ble 53 y then (tb_53) else (tb_52))) else (bif Nat.ble 50 y then (bif Nat.ble 51 y then (tb_51) else (tb_50)) else (bif Nat.ble 49 y then (tb_49) else (tb_48))))) else (bif Nat.ble 40 y then (bif Nat.ble 44 y then (bif Nat.ble 46 y then (bif Nat.ble 47 y then (tb_47) else (tb_46)) else (bif Nat.ble 45 y then (tb_45) else (tb_44))) else (bif Nat.ble 42 y then (bif Nat.ble 43 y then (tb_43) else (tb_42)) else (bif Nat.ble 41 y then (tb_41) else (tb_40)))) else (bif Nat.ble 36 y then (bif Nat.ble 38 y then (bif Nat.ble 39 y then (tb_39) else (tb_38)) else (bif Nat.ble 37 y then (tb_37) else (tb_36))) else (bif Nat.ble 34 y then (bif Nat.ble 35 y then (tb_35) else (tb_34)) else (bif Nat.ble 33 y then (tb_33) else (tb_32)))))) else (bif Nat.ble 16 y then (bif Nat.ble 24 y then (bif Nat.ble 28 y then (bif Nat.ble 30 y then (bif Nat.ble 31 y then (tb_31) else (tb_30)) else (bif Nat.ble 29 y then (tb_29) else (tb_28))) else (bif Nat.ble 26 y then (bif Nat.ble 27 y then (tb_27) else (tb_26)) else (bif Nat.ble 25 y then (tb_25) else (tb_24)))) else (bif Nat.ble 20 y then (bif Nat.ble 22 y then (bif Nat.ble 23 y then (tb_23) else (tb_22)) else (bif Nat.ble 21 y then (tb_21) else (tb_20))) else (bif Nat.ble 18 y then (bif Nat.ble 19 y then (tb_19) else (tb_18)) else (bif Nat.ble 17 y then (tb_17) else (tb_16))))) else (bif Nat.ble 8 y then (bif Nat.ble 12 y then (bif Nat.ble 14 y then (bif Nat.ble 15 y then (tb_15) else (tb_14)) else (bif Nat.ble 13 y then (tb_13) else (tb_12))) else (bif Nat.ble 10 y then (bif Nat.ble 11 y then (tb_11) else (tb_10)) else (bif Nat.ble 9 y then (tb_9) else (tb_8)))) else (bif Nat.ble 4 y then (bif Nat.ble 6 y then (bif Nat.ble 7 y then (tb_7) else (tb_6)) else (bif Nat.ble 5 y then (tb_5) else (tb_4))) else (bif Nat.ble 2 y then (bif Nat.ble 3 y then (tb_3) else (tb_2)) else (bif Nat.ble 1 y then (tb_1) else (tb_0)))))))
noncomputable def am_nm (y : Nat) : MethodName := bif Nat.ble 65 y then (bif Nat.ble 97 y then (bif Nat.ble 113 y then (bif Nat.ble 121 y then (bif Nat.ble 125 y then (bif Nat.ble 127 y then (bif Nat.ble 128 y then (bif Nat.ble 129 y then (yL_law) else (yL_last)) else (yL_can)) else (bif Nat.ble 126 y then (yL_holds) else (yL_fix))) else (bif Nat.ble 123 y then (bif Nat.ble 124 y then (yL_start) else (yL_saws)) else (bif Nat.ble 122 y then (yL_held) else (yL_sawn)))) else (bif Nat.ble 117 y then (bif Nat.ble 119 y then (bif Nat.ble 120 y then (yL_through) else (yL_sort)) else (bif Nat.ble 118 y then (yL_owner) else (yL_come))) else (bif Nat.ble 115 y then (bif Nat.ble 116 y then (yL_more) else (yL_kind)) else (bif Nat.ble 114 y then (yL_locks) else (yL_things))))) else (bif Nat.ble 105 y then (bif Nat.ble 109 y then (bif Nat.ble 111 y then (bif Nat.ble 112 y then (yL_plain) else (yL_build)) else (bif Nat.ble 110 y then (yL_text) else (yL_at))) else (bif Nat.ble 107 y then (bif Nat.ble 108 y then (yJ8_newLength_cabcc) else (yJ7_copyOfRangeByte_39247)) else (bif Nat.ble 106 y then (yJ7_copyOfRange_39247) else (yJ7_checkLength_df160)))) else (bif Nat.ble 101 y then (bif Nat.ble 103 y then (bif Nat.ble 104 y then (yJ7_copyOf_9075b) else (yJ1_indexOfChar_4cfef)) else (bif Nat.ble 102 y then (yJ1_indexOf_4cfef) else (yJ1_canEncode_9a6ad))) else (bif Nat.ble 99 y then (bif Nat.ble 100 y then (yJ1_charAt_3b067) else (yJ4_length_8abf5)) else (bif Nat.ble 98 y then (yJ4_toString_0e30d) else (yJ4_append_bf812)))))) else (bif Nat.ble 81 y then (bif Nat.ble 89 y then (bif Nat.ble 93 y then (bif Nat.ble 95 y then (bif Nat.ble 96 y then (yJ4_append_15ec4) else (yJ4_init_da8c8)) else (bif Nat.ble 94 y then (yJ0_isLatin1_aae02) else (yJ0_coder_7d493))) else (bif Nat.ble 91 y then (bif Nat.ble 92 y then (yJ0_init_db425) else (yJ0_getBytes_840e7)) else (bif Nat.ble 90 y then (yJ0_indexOf_7cf53) else (yJ0_indexOf_0f7a4)))) else (bif Nat.ble 85 y then (bif Nat.ble 87 y then (bif Nat.ble 88 y then (yJ0_charAt_5068e) else (yJ0_length_8abf5)) else (bif Nat.ble 86 y then (yJ0_init_81219) else (yJ13_bitCount_95d88))) else (bif Nat.ble 83 y then (bif Nat.ble 84 y then (yJ6_bitCount_0f7a4) else (yJ6_stringSize_0f7a4)) else (bif Nat.ble 82 y then (yJ6_getChars_ba4f3) else (yJ5_putStringAt_47b60))))) else (bif Nat.ble 73 y then (bif Nat.ble 77 y then (bif Nat.ble 79 y then (bif Nat.ble 80 y then (yJ5_inflateIfNeededFor_a7421) else (yJ5_isLatin1_aae02)) else (bif Nat.ble 78 y then (yJ5_getValue_6d5f1) else (yJ5_append_c97b9))) else (bif Nat.ble 75 y then (bif Nat.ble 76 y then (yJ5_append_cf1ce) else (yJ5_newCapacity_0f7a4)) else (bif Nat.ble 74 y then (yJ5_ensureCapacityInternal_d00df) else (yJ5_length_8abf5)))) else (bif Nat.ble 69 y then (bif Nat.ble 71 y then (bif Nat.ble 72 y then (yJ5_init_d00df) else (yX7_priceOf)) else (bif Nat.ble 70 y then (yX7_cheapestSaws) else (yX7_isSort))) else (bif Nat.ble 67 y then (bif Nat.ble 68 y then (yX7_isKind) else (yX7_isHour)) else (bif Nat.ble 66 y then (yX7_isEither) else (yX7_isByte))))))) else (bif Nat.ble 32 y then (bif Nat.ble 48 y then (bif Nat.ble 56 y then (bif Nat.ble 60 y then (bif Nat.ble 62 y then (bif Nat.ble 63 y then (bif Nat.ble 64 y then (yX7_has) else (yX7_sawFor)) else (yX7_first)) else (bif Nat.ble 61 y then (yX7_never) else (yX7_waits))) else (bif Nat.ble 58 y then (bif Nat.ble 59 y then (yX7_saw) else (yX7_go)) else (bif Nat.ble 57 y then (yX7_free) else (yX7_holds)))) else (bif Nat.ble 52 y then (bif Nat.ble 54 y then (bif Nat.ble 55 y then (yX7_lockTold) else (yX7_lock)) else (bif Nat.ble 53 y then (yX7_told) else (yX7_thing))) else (bif Nat.ble 50 y then (bif Nat.ble 51 y then (yX7_force) else (yX7_text)) else (bif Nat.ble 49 y then (yX7_feed) else (yX7_count))))) else (bif Nat.ble 40 y then (bif Nat.ble 44 y then (bif Nat.ble 46 y then (bif Nat.ble 47 y then (yX7_init) else (yX6_init)) else (bif Nat.ble 45 y then (yX5_isIn) else (yX5_wordNumber))) else (bif Nat.ble 42 y then (bif Nat.ble 43 y then (yX5_scanNumber) else (yX5_scanWord)) else (bif Nat.ble 41 y then (yX5_advance) else (yX5_one)))) else (bif Nat.ble 36 y then (bif Nat.ble 38 y then (bif Nat.ble 39 y then (yX5_joiner) else (yX5_expression)) else (bif Nat.ble 37 y then (yX5_write) else (yX5_demand))) else (bif Nat.ble 34 y then (bif Nat.ble 35 y then (yX5_refuse) else (yX5_read)) else (bif Nat.ble 33 y then (yX5_append) else (yX5_init)))))) else (bif Nat.ble 16 y then (bif Nat.ble 24 y then (bif Nat.ble 28 y then (bif Nat.ble 30 y then (bif Nat.ble 31 y then (yX4_goneAtLast) else (yX4_canGo)) else (bif Nat.ble 29 y then (yX4_awaited) else (yX4_holders))) else (bif Nat.ble 26 y then (bif Nat.ble 27 y then (yX4_isFixing) else (yX4_regrip)) else (bif Nat.ble 25 y then (yX4_putSet) else (yX4_addLock)))) else (bif Nat.ble 20 y then (bif Nat.ble 22 y then (bif Nat.ble 23 y then (yX4_putKind) else (yX4_addThing)) else (bif Nat.ble 21 y then (yX4_allThings) else (yX4_isThrough))) else (bif Nat.ble 18 y then (bif Nat.ble 19 y then (yX4_isShut) else (yX4_isGone)) else (bif Nat.ble 17 y then (yX4_isLock) else (yX4_isThing))))) else (bif Nat.ble 8 y then (bif Nat.ble 12 y then (bif Nat.ble 14 y then (bif Nat.ble 15 y then (yX4_init) else (yX3_fewestAhead)) else (bif Nat.ble 13 y then (yX3_goneAhead) else (yX3_countAll))) else (bif Nat.ble 10 y then (bif Nat.ble 11 y then (yX3_init) else (yX2_truth)) else (bif Nat.ble 9 y then (yX2_joined) else (yX2_worth)))) else (bif Nat.ble 4 y then (bif Nat.ble 6 y then (bif Nat.ble 7 y then (yX2_sawing) else (yX2_says)) else (bif Nat.ble 5 y then (yX2_takeTape) else (yX2_init))) else (bif Nat.ble 2 y then (bif Nat.ble 3 y then (yX1_everGoes) else (yX1_goesIn)) else (bif Nat.ble 1 y then (yX1_isHeld) else (yX0_init)))))))
noncomputable def am_code (y : Nat) : ByteArray := bif Nat.ble 65 y then (bif Nat.ble 97 y then (bif Nat.ble 113 y then (bif Nat.ble 121 y then (bif Nat.ble 125 y then (bif Nat.ble 127 y then (bif Nat.ble 128 y then (bif Nat.ble 129 y then (code) else (method_23_code)) else (method_22_code)) else (bif Nat.ble 126 y then (method_21_code) else (method_20_code))) else (bif Nat.ble 123 y then (bif Nat.ble 124 y then (method_19_code) else (method_17_code)) else (bif Nat.ble 122 y then (method_15_code) else (method_14_code)))) else (bif Nat.ble 117 y then (bif Nat.ble 119 y then (bif Nat.ble 120 y then (method_13_code) else (method_12_code)) else (bif Nat.ble 118 y then (method_11_code) else (method_10_code))) else (bif Nat.ble 115 y then (bif Nat.ble 116 y then (method_9_code) else (method_8_code)) else (bif Nat.ble 114 y then (method_7_code) else (method_6_code))))) else (bif Nat.ble 105 y then (bif Nat.ble 109 y then (bif Nat.ble 111 y then (bif Nat.ble 112 y then (method_5_code) else (method_4_code)) else (bif Nat.ble 110 y then (method_3_code) else (method_2_code))) else (bif Nat.ble 107 y then (bif Nat.ble 108 y then (prog_23_method_27_code) else (prog_22_method_133_code)) else (bif Nat.ble 106 y then (prog_22_method_132_code) else (prog_22_method_131_code)))) else (bif Nat.ble 101 y then (bif Nat.ble 103 y then (bif Nat.ble 104 y then (prog_22_method_121_code) else (prog_19_method_23_code)) else (bif Nat.ble 102 y then (prog_19_method_22_code) else (prog_19_method_4_code))) else (bif Nat.ble 99 y then (bif Nat.ble 100 y then (prog_19_method_2_code) else (prog_18_method_93_code)) else (bif Nat.ble 98 y then (prog_18_method_42_code) else (prog_18_method_15_code)))))) else (bif Nat.ble 81 y then (bif Nat.ble 89 y then (bif Nat.ble 93 y then (bif Nat.ble 95 y then (bif Nat.ble 96 y then (prog_18_method_7_code) else (prog_18_method_1_code)) else (bif Nat.ble 94 y then (prog_17_method_154_code) else (prog_17_method_152_code))) else (bif Nat.ble 91 y then (bif Nat.ble 92 y then (prog_17_method_150_code) else (prog_17_method_147_code)) else (bif Nat.ble 90 y then (prog_17_method_80_code) else (prog_17_method_79_code)))) else (bif Nat.ble 85 y then (bif Nat.ble 87 y then (bif Nat.ble 88 y then (prog_17_method_56_code) else (prog_17_method_54_code)) else (bif Nat.ble 86 y then (prog_17_method_53_code) else (prog_15_method_50_code))) else (bif Nat.ble 83 y then (bif Nat.ble 84 y then (prog_14_method_49_code) else (prog_14_method_13_code)) else (bif Nat.ble 82 y then (prog_14_method_12_code) else (prog_11_method_73_code))))) else (bif Nat.ble 73 y then (bif Nat.ble 77 y then (bif Nat.ble 79 y then (bif Nat.ble 80 y then (prog_11_method_71_code) else (prog_11_method_68_code)) else (bif Nat.ble 78 y then (prog_11_method_64_code) else (prog_11_method_32_code))) else (bif Nat.ble 75 y then (bif Nat.ble 76 y then (prog_11_method_22_code) else (prog_11_method_10_code)) else (bif Nat.ble 74 y then (prog_11_method_9_code) else (prog_11_method_6_code)))) else (bif Nat.ble 69 y then (bif Nat.ble 71 y then (bif Nat.ble 72 y then (prog_11_method_2_code) else (prog_1_method_62_code)) else (bif Nat.ble 70 y then (prog_1_method_61_code) else (prog_1_method_57_code))) else (bif Nat.ble 67 y then (bif Nat.ble 68 y then (prog_1_method_56_code) else (prog_1_method_55_code)) else (bif Nat.ble 66 y then (prog_1_method_54_code) else (prog_1_method_53_code))))))) else (bif Nat.ble 32 y then (bif Nat.ble 48 y then (bif Nat.ble 56 y then (bif Nat.ble 60 y then (bif Nat.ble 62 y then (bif Nat.ble 63 y then (bif Nat.ble 64 y then (prog_1_method_51_code) else (prog_1_method_27_code)) else (prog_1_method_19_code)) else (bif Nat.ble 61 y then (prog_1_method_18_code) else (prog_1_method_17_code))) else (bif Nat.ble 58 y then (bif Nat.ble 59 y then (prog_1_method_16_code) else (prog_1_method_15_code)) else (bif Nat.ble 57 y then (prog_1_method_14_code) else (prog_1_method_13_code)))) else (bif Nat.ble 52 y then (bif Nat.ble 54 y then (bif Nat.ble 55 y then (prog_1_method_12_code) else (prog_1_method_10_code)) else (bif Nat.ble 53 y then (prog_1_method_9_code) else (prog_1_method_7_code))) else (bif Nat.ble 50 y then (bif Nat.ble 51 y then (prog_1_method_5_code) else (prog_1_method_4_code)) else (bif Nat.ble 49 y then (prog_1_method_3_code) else (prog_1_method_2_code))))) else (bif Nat.ble 40 y then (bif Nat.ble 44 y then (bif Nat.ble 46 y then (bif Nat.ble 47 y then (prog_1_method_1_code) else (prog_8_method_1_code)) else (bif Nat.ble 45 y then (prog_7_method_14_code) else (prog_7_method_13_code))) else (bif Nat.ble 42 y then (bif Nat.ble 43 y then (prog_7_method_12_code) else (prog_7_method_11_code)) else (bif Nat.ble 41 y then (prog_7_method_10_code) else (prog_7_method_9_code)))) else (bif Nat.ble 36 y then (bif Nat.ble 38 y then (bif Nat.ble 39 y then (prog_7_method_8_code) else (prog_7_method_7_code)) else (bif Nat.ble 37 y then (prog_7_method_6_code) else (prog_7_method_5_code))) else (bif Nat.ble 34 y then (bif Nat.ble 35 y then (prog_7_method_4_code) else (prog_7_method_3_code)) else (bif Nat.ble 33 y then (prog_7_method_2_code) else (prog_7_method_1_code)))))) else (bif Nat.ble 16 y then (bif Nat.ble 24 y then (bif Nat.ble 28 y then (bif Nat.ble 30 y then (bif Nat.ble 31 y then (prog_6_method_21_code) else (prog_6_method_20_code)) else (bif Nat.ble 29 y then (prog_6_method_19_code) else (prog_6_method_18_code))) else (bif Nat.ble 26 y then (bif Nat.ble 27 y then (prog_6_method_16_code) else (prog_6_method_15_code)) else (bif Nat.ble 25 y then (prog_6_method_14_code) else (prog_6_method_11_code)))) else (bif Nat.ble 20 y then (bif Nat.ble 22 y then (bif Nat.ble 23 y then (prog_6_method_10_code) else (prog_6_method_9_code)) else (bif Nat.ble 21 y then (prog_6_method_8_code) else (prog_6_method_7_code))) else (bif Nat.ble 18 y then (bif Nat.ble 19 y then (prog_6_method_6_code) else (prog_6_method_4_code)) else (bif Nat.ble 17 y then (prog_6_method_3_code) else (prog_6_method_2_code))))) else (bif Nat.ble 8 y then (bif Nat.ble 12 y then (bif Nat.ble 14 y then (bif Nat.ble 15 y then (prog_6_method_1_code) else (prog_5_method_5_code)) else (bif Nat.ble 13 y then (prog_5_method_4_code) else (prog_5_method_3_code))) else (bif Nat.ble 10 y then (bif Nat.ble 11 y then (prog_5_method_1_code) else (prog_4_method_9_code)) else (bif Nat.ble 9 y then (prog_4_method_8_code) else (prog_4_method_7_code)))) else (bif Nat.ble 4 y then (bif Nat.ble 6 y then (bif Nat.ble 7 y then (prog_4_method_4_code) else (prog_4_method_3_code)) else (bif Nat.ble 5 y then (prog_4_method_2_code) else (prog_4_method_1_code))) else (bif Nat.ble 2 y then (bif Nat.ble 3 y then (prog_3_method_5_code) else (prog_3_method_4_code)) else (bif Nat.ble 1 y then (prog_3_method_2_code) else (prog_2_method_1_code)))))))
noncomputable def am_ml (y : Nat) : Nat := bif Nat.ble 65 y then (bif Nat.ble 97 y then (bif Nat.ble 113 y then (bif Nat.ble 121 y then (bif Nat.ble 125 y then (bif Nat.ble 127 y then (bif Nat.ble 128 y then (bif Nat.ble 129 y then (11) else (6)) else (3)) else (bif Nat.ble 126 y then (5) else (5))) else (bif Nat.ble 123 y then (bif Nat.ble 124 y then (3) else (3)) else (bif Nat.ble 122 y then (3) else (2)))) else (bif Nat.ble 117 y then (bif Nat.ble 119 y then (bif Nat.ble 120 y then (3) else (2)) else (bif Nat.ble 118 y then (2) else (2))) else (bif Nat.ble 115 y then (bif Nat.ble 116 y then (2) else (2)) else (bif Nat.ble 114 y then (1) else (1))))) else (bif Nat.ble 105 y then (bif Nat.ble 109 y then (bif Nat.ble 111 y then (bif Nat.ble 112 y then (1) else (3)) else (bif Nat.ble 110 y then (3) else (2))) else (bif Nat.ble 107 y then (bif Nat.ble 108 y then (4) else (5)) else (bif Nat.ble 106 y then (3) else (2)))) else (bif Nat.ble 101 y then (bif Nat.ble 103 y then (bif Nat.ble 104 y then (3) else (6)) else (bif Nat.ble 102 y then (4) else (1))) else (bif Nat.ble 99 y then (bif Nat.ble 100 y then (2) else (1)) else (bif Nat.ble 98 y then (1) else (2)))))) else (bif Nat.ble 81 y then (bif Nat.ble 89 y then (bif Nat.ble 93 y then (bif Nat.ble 95 y then (bif Nat.ble 96 y then (2) else (1)) else (bif Nat.ble 94 y then (1) else (1))) else (bif Nat.ble 91 y then (bif Nat.ble 92 y then (5) else (4)) else (bif Nat.ble 90 y then (3) else (2)))) else (bif Nat.ble 85 y then (bif Nat.ble 87 y then (bif Nat.ble 88 y then (2) else (1)) else (bif Nat.ble 86 y then (2) else (2))) else (bif Nat.ble 83 y then (bif Nat.ble 84 y then (1) else (4)) else (bif Nat.ble 82 y then (7) else (3))))) else (bif Nat.ble 73 y then (bif Nat.ble 77 y then (bif Nat.ble 79 y then (bif Nat.ble 80 y then (2) else (1)) else (bif Nat.ble 78 y then (1) else (4))) else (bif Nat.ble 75 y then (bif Nat.ble 76 y then (3) else (6)) else (bif Nat.ble 74 y then (3) else (1)))) else (bif Nat.ble 69 y then (bif Nat.ble 71 y then (bif Nat.ble 72 y then (2) else (4)) else (bif Nat.ble 70 y then (8) else (1))) else (bif Nat.ble 67 y then (bif Nat.ble 68 y then (1) else (1)) else (bif Nat.ble 66 y then (1) else (1))))))) else (bif Nat.ble 32 y then (bif Nat.ble 48 y then (bif Nat.ble 56 y then (bif Nat.ble 60 y then (bif Nat.ble 62 y then (bif Nat.ble 63 y then (bif Nat.ble 64 y then (2) else (3)) else (3)) else (bif Nat.ble 61 y then (1) else (2))) else (bif Nat.ble 58 y then (bif Nat.ble 59 y then (2) else (2)) else (bif Nat.ble 57 y then (1) else (2)))) else (bif Nat.ble 52 y then (bif Nat.ble 54 y then (bif Nat.ble 55 y then (3) else (4)) else (bif Nat.ble 53 y then (3) else (4))) else (bif Nat.ble 50 y then (bif Nat.ble 51 y then (3) else (1)) else (bif Nat.ble 49 y then (8) else (2))))) else (bif Nat.ble 40 y then (bif Nat.ble 44 y then (bif Nat.ble 46 y then (bif Nat.ble 47 y then (2) else (1)) else (bif Nat.ble 45 y then (3) else (6))) else (bif Nat.ble 42 y then (bif Nat.ble 43 y then (1) else (2)) else (bif Nat.ble 41 y then (1) else (2)))) else (bif Nat.ble 36 y then (bif Nat.ble 38 y then (bif Nat.ble 39 y then (2) else (6)) else (bif Nat.ble 37 y then (2) else (2))) else (bif Nat.ble 34 y then (bif Nat.ble 35 y then (1) else (4)) else (bif Nat.ble 33 y then (2) else (1)))))) else (bif Nat.ble 16 y then (bif Nat.ble 24 y then (bif Nat.ble 28 y then (bif Nat.ble 30 y then (bif Nat.ble 31 y then (5) else (7)) else (bif Nat.ble 29 y then (5) else (4))) else (bif Nat.ble 26 y then (bif Nat.ble 27 y then (4) else (4)) else (bif Nat.ble 25 y then (3) else (5)))) else (bif Nat.ble 20 y then (bif Nat.ble 22 y then (bif Nat.ble 23 y then (4) else (5)) else (bif Nat.ble 21 y then (1) else (2))) else (bif Nat.ble 18 y then (bif Nat.ble 19 y then (2) else (2)) else (bif Nat.ble 17 y then (2) else (2))))) else (bif Nat.ble 8 y then (bif Nat.ble 12 y then (bif Nat.ble 14 y then (bif Nat.ble 15 y then (1) else (5)) else (bif Nat.ble 13 y then (4) else (4))) else (bif Nat.ble 10 y then (bif Nat.ble 11 y then (2) else (1)) else (bif Nat.ble 9 y then (3) else (6)))) else (bif Nat.ble 4 y then (bif Nat.ble 6 y then (bif Nat.ble 7 y then (3) else (6)) else (bif Nat.ble 5 y then (1) else (3))) else (bif Nat.ble 2 y then (bif Nat.ble 3 y then (3) else (3)) else (bif Nat.ble 1 y then (3) else (2)))))))
noncomputable def am_ret (y : Nat) : Option FieldType := bif Nat.ble 65 y then (bif Nat.ble 97 y then (bif Nat.ble 113 y then (bif Nat.ble 121 y then (bif Nat.ble 125 y then (bif Nat.ble 127 y then (bif Nat.ble 128 y then (bif Nat.ble 129 y then ((some FieldType.boolean)) else ((some FieldType.int))) else ((some FieldType.boolean))) else (bif Nat.ble 126 y then ((some FieldType.int)) else ((some FieldType.boolean)))) else (bif Nat.ble 123 y then (bif Nat.ble 124 y then ((none : Option FieldType)) else ((some FieldType.int))) else (bif Nat.ble 122 y then ((some FieldType.int)) else ((some FieldType.boolean))))) else (bif Nat.ble 117 y then (bif Nat.ble 119 y then (bif Nat.ble 120 y then ((some FieldType.int)) else ((some FieldType.int))) else (bif Nat.ble 118 y then ((some FieldType.int)) else ((some FieldType.int)))) else (bif Nat.ble 115 y then (bif Nat.ble 116 y then ((some FieldType.int)) else ((some FieldType.int))) else (bif Nat.ble 114 y then ((some FieldType.int)) else ((some FieldType.int)))))) else (bif Nat.ble 105 y then (bif Nat.ble 109 y then (bif Nat.ble 111 y then (bif Nat.ble 112 y then ((some FieldType.boolean)) else ((some (FieldType.object "LockedToAnothers")))) else (bif Nat.ble 110 y then ((none : Option FieldType)) else ((some FieldType.int)))) else (bif Nat.ble 107 y then (bif Nat.ble 108 y then ((some FieldType.int)) else ((some (FieldType.array FieldType.byte)))) else (bif Nat.ble 106 y then ((some (FieldType.array FieldType.byte))) else ((none : Option FieldType))))) else (bif Nat.ble 101 y then (bif Nat.ble 103 y then (bif Nat.ble 104 y then ((some (FieldType.array FieldType.byte))) else ((some FieldType.int))) else (bif Nat.ble 102 y then ((some FieldType.int)) else ((some FieldType.boolean)))) else (bif Nat.ble 99 y then (bif Nat.ble 100 y then ((some FieldType.char)) else ((some FieldType.int))) else (bif Nat.ble 98 y then ((some (FieldType.object "java/lang/String"))) else ((some (FieldType.object "java/lang/StringBuilder")))))))) else (bif Nat.ble 81 y then (bif Nat.ble 89 y then (bif Nat.ble 93 y then (bif Nat.ble 95 y then (bif Nat.ble 96 y then ((some (FieldType.object "java/lang/StringBuilder"))) else ((none : Option FieldType))) else (bif Nat.ble 94 y then ((some FieldType.boolean)) else ((some FieldType.byte)))) else (bif Nat.ble 91 y then (bif Nat.ble 92 y then ((none : Option FieldType)) else ((none : Option FieldType))) else (bif Nat.ble 90 y then ((some FieldType.int)) else ((some FieldType.int))))) else (bif Nat.ble 85 y then (bif Nat.ble 87 y then (bif Nat.ble 88 y then ((some FieldType.char)) else ((some FieldType.int))) else (bif Nat.ble 86 y then ((none : Option FieldType)) else ((some FieldType.int)))) else (bif Nat.ble 83 y then (bif Nat.ble 84 y then ((some FieldType.int)) else ((some FieldType.int))) else (bif Nat.ble 82 y then ((some FieldType.int)) else ((none : Option FieldType)))))) else (bif Nat.ble 73 y then (bif Nat.ble 77 y then (bif Nat.ble 79 y then (bif Nat.ble 80 y then ((none : Option FieldType)) else ((some FieldType.boolean))) else (bif Nat.ble 78 y then ((some (FieldType.array FieldType.byte))) else ((some (FieldType.object "java/lang/AbstractStringBuilder"))))) else (bif Nat.ble 75 y then (bif Nat.ble 76 y then ((some (FieldType.object "java/lang/AbstractStringBuilder"))) else ((some FieldType.int))) else (bif Nat.ble 74 y then ((none : Option FieldType)) else ((some FieldType.int))))) else (bif Nat.ble 69 y then (bif Nat.ble 71 y then (bif Nat.ble 72 y then ((none : Option FieldType)) else ((some FieldType.int))) else (bif Nat.ble 70 y then ((some FieldType.int)) else ((some FieldType.boolean)))) else (bif Nat.ble 67 y then (bif Nat.ble 68 y then ((some FieldType.boolean)) else ((some FieldType.boolean))) else (bif Nat.ble 66 y then ((some FieldType.boolean)) else ((some FieldType.boolean)))))))) else (bif Nat.ble 32 y then (bif Nat.ble 48 y then (bif Nat.ble 56 y then (bif Nat.ble 60 y then (bif Nat.ble 62 y then (bif Nat.ble 63 y then (bif Nat.ble 64 y then ((some FieldType.boolean)) else ((some FieldType.int))) else ((some FieldType.int))) else (bif Nat.ble 61 y then ((some FieldType.int)) else ((some FieldType.int)))) else (bif Nat.ble 58 y then (bif Nat.ble 59 y then ((some FieldType.int)) else ((some FieldType.int))) else (bif Nat.ble 57 y then ((some FieldType.int)) else ((some FieldType.int))))) else (bif Nat.ble 52 y then (bif Nat.ble 54 y then (bif Nat.ble 55 y then ((some FieldType.int)) else ((some FieldType.int))) else (bif Nat.ble 53 y then ((some FieldType.int)) else ((some FieldType.int)))) else (bif Nat.ble 50 y then (bif Nat.ble 51 y then ((some FieldType.int)) else ((some FieldType.int))) else (bif Nat.ble 49 y then ((some FieldType.int)) else ((some FieldType.int)))))) else (bif Nat.ble 40 y then (bif Nat.ble 44 y then (bif Nat.ble 46 y then (bif Nat.ble 47 y then ((none : Option FieldType)) else ((none : Option FieldType))) else (bif Nat.ble 45 y then ((some FieldType.boolean)) else ((some FieldType.int)))) else (bif Nat.ble 42 y then (bif Nat.ble 43 y then ((some FieldType.int)) else ((some FieldType.int))) else (bif Nat.ble 41 y then ((none : Option FieldType)) else ((none : Option FieldType))))) else (bif Nat.ble 36 y then (bif Nat.ble 38 y then (bif Nat.ble 39 y then ((some FieldType.int)) else ((none : Option FieldType))) else (bif Nat.ble 37 y then ((none : Option FieldType)) else ((none : Option FieldType)))) else (bif Nat.ble 34 y then (bif Nat.ble 35 y then ((none : Option FieldType)) else ((some FieldType.boolean))) else (bif Nat.ble 33 y then ((none : Option FieldType)) else ((none : Option FieldType))))))) else (bif Nat.ble 16 y then (bif Nat.ble 24 y then (bif Nat.ble 28 y then (bif Nat.ble 30 y then (bif Nat.ble 31 y then ((some FieldType.int)) else ((some FieldType.int))) else (bif Nat.ble 29 y then ((some FieldType.int)) else ((some FieldType.int)))) else (bif Nat.ble 26 y then (bif Nat.ble 27 y then ((some FieldType.boolean)) else ((none : Option FieldType))) else (bif Nat.ble 25 y then ((none : Option FieldType)) else ((none : Option FieldType))))) else (bif Nat.ble 20 y then (bif Nat.ble 22 y then (bif Nat.ble 23 y then ((none : Option FieldType)) else ((none : Option FieldType))) else (bif Nat.ble 21 y then ((some FieldType.int)) else ((some FieldType.boolean)))) else (bif Nat.ble 18 y then (bif Nat.ble 19 y then ((some FieldType.boolean)) else ((some FieldType.boolean))) else (bif Nat.ble 17 y then ((some FieldType.boolean)) else ((some FieldType.boolean)))))) else (bif Nat.ble 8 y then (bif Nat.ble 12 y then (bif Nat.ble 14 y then (bif Nat.ble 15 y then ((none : Option FieldType)) else ((some FieldType.int))) else (bif Nat.ble 13 y then ((some FieldType.int)) else ((none : Option FieldType)))) else (bif Nat.ble 10 y then (bif Nat.ble 11 y then ((none : Option FieldType)) else ((some FieldType.int))) else (bif Nat.ble 9 y then ((some FieldType.int)) else ((some FieldType.int))))) else (bif Nat.ble 4 y then (bif Nat.ble 6 y then (bif Nat.ble 7 y then ((some FieldType.int)) else ((some FieldType.int))) else (bif Nat.ble 5 y then ((some FieldType.boolean)) else ((none : Option FieldType)))) else (bif Nat.ble 2 y then (bif Nat.ble 3 y then ((some FieldType.boolean)) else ((some FieldType.boolean))) else (bif Nat.ble 1 y then ((some FieldType.boolean)) else ((none : Option FieldType))))))))
noncomputable def am_kd (y : Nat) : Nat := bif Nat.ble 65 y then (bif Nat.ble 97 y then (bif Nat.ble 113 y then (bif Nat.ble 121 y then (bif Nat.ble 125 y then (bif Nat.ble 127 y then (bif Nat.ble 128 y then (bif Nat.ble 129 y then (0) else (0)) else (0)) else (bif Nat.ble 126 y then (0) else (0))) else (bif Nat.ble 123 y then (bif Nat.ble 124 y then (0) else (0)) else (bif Nat.ble 122 y then (0) else (0)))) else (bif Nat.ble 117 y then (bif Nat.ble 119 y then (bif Nat.ble 120 y then (0) else (0)) else (bif Nat.ble 118 y then (0) else (0))) else (bif Nat.ble 115 y then (bif Nat.ble 116 y then (0) else (0)) else (bif Nat.ble 114 y then (0) else (0))))) else (bif Nat.ble 105 y then (bif Nat.ble 109 y then (bif Nat.ble 111 y then (bif Nat.ble 112 y then (0) else (0)) else (bif Nat.ble 110 y then (0) else (0))) else (bif Nat.ble 107 y then (bif Nat.ble 108 y then (0) else (0)) else (bif Nat.ble 106 y then (0) else (0)))) else (bif Nat.ble 101 y then (bif Nat.ble 103 y then (bif Nat.ble 104 y then (0) else (0)) else (bif Nat.ble 102 y then (0) else (0))) else (bif Nat.ble 99 y then (bif Nat.ble 100 y then (0) else (5)) else (bif Nat.ble 98 y then (1) else (1)))))) else (bif Nat.ble 81 y then (bif Nat.ble 89 y then (bif Nat.ble 93 y then (bif Nat.ble 95 y then (bif Nat.ble 96 y then (1) else (2)) else (bif Nat.ble 94 y then (1) else (1))) else (bif Nat.ble 91 y then (bif Nat.ble 92 y then (2) else (1)) else (bif Nat.ble 90 y then (1) else (1)))) else (bif Nat.ble 85 y then (bif Nat.ble 87 y then (bif Nat.ble 88 y then (1) else (1)) else (bif Nat.ble 86 y then (2) else (0))) else (bif Nat.ble 83 y then (bif Nat.ble 84 y then (0) else (0)) else (bif Nat.ble 82 y then (0) else (3))))) else (bif Nat.ble 73 y then (bif Nat.ble 77 y then (bif Nat.ble 79 y then (bif Nat.ble 80 y then (3) else (3)) else (bif Nat.ble 78 y then (3) else (4))) else (bif Nat.ble 75 y then (bif Nat.ble 76 y then (4) else (3)) else (bif Nat.ble 74 y then (3) else (4)))) else (bif Nat.ble 69 y then (bif Nat.ble 71 y then (bif Nat.ble 72 y then (2) else (1)) else (bif Nat.ble 70 y then (1) else (0))) else (bif Nat.ble 67 y then (bif Nat.ble 68 y then (0) else (0)) else (bif Nat.ble 66 y then (0) else (0))))))) else (bif Nat.ble 32 y then (bif Nat.ble 48 y then (bif Nat.ble 56 y then (bif Nat.ble 60 y then (bif Nat.ble 62 y then (bif Nat.ble 63 y then (bif Nat.ble 64 y then (0) else (1)) else (1)) else (bif Nat.ble 61 y then (1) else (1))) else (bif Nat.ble 58 y then (bif Nat.ble 59 y then (1) else (1)) else (bif Nat.ble 57 y then (1) else (1)))) else (bif Nat.ble 52 y then (bif Nat.ble 54 y then (bif Nat.ble 55 y then (1) else (1)) else (bif Nat.ble 53 y then (1) else (1))) else (bif Nat.ble 50 y then (bif Nat.ble 51 y then (1) else (1)) else (bif Nat.ble 49 y then (1) else (1))))) else (bif Nat.ble 40 y then (bif Nat.ble 44 y then (bif Nat.ble 46 y then (bif Nat.ble 47 y then (2) else (2)) else (bif Nat.ble 45 y then (0) else (1))) else (bif Nat.ble 42 y then (bif Nat.ble 43 y then (1) else (1)) else (bif Nat.ble 41 y then (1) else (1)))) else (bif Nat.ble 36 y then (bif Nat.ble 38 y then (bif Nat.ble 39 y then (1) else (1)) else (bif Nat.ble 37 y then (1) else (1))) else (bif Nat.ble 34 y then (bif Nat.ble 35 y then (1) else (1)) else (bif Nat.ble 33 y then (1) else (2)))))) else (bif Nat.ble 16 y then (bif Nat.ble 24 y then (bif Nat.ble 28 y then (bif Nat.ble 30 y then (bif Nat.ble 31 y then (1) else (1)) else (bif Nat.ble 29 y then (1) else (1))) else (bif Nat.ble 26 y then (bif Nat.ble 27 y then (1) else (1)) else (bif Nat.ble 25 y then (1) else (1)))) else (bif Nat.ble 20 y then (bif Nat.ble 22 y then (bif Nat.ble 23 y then (1) else (1)) else (bif Nat.ble 21 y then (1) else (1))) else (bif Nat.ble 18 y then (bif Nat.ble 19 y then (1) else (1)) else (bif Nat.ble 17 y then (1) else (1))))) else (bif Nat.ble 8 y then (bif Nat.ble 12 y then (bif Nat.ble 14 y then (bif Nat.ble 15 y then (2) else (1)) else (bif Nat.ble 13 y then (1) else (1))) else (bif Nat.ble 10 y then (bif Nat.ble 11 y then (2) else (0)) else (bif Nat.ble 9 y then (0) else (1)))) else (bif Nat.ble 4 y then (bif Nat.ble 6 y then (bif Nat.ble 7 y then (1) else (1)) else (bif Nat.ble 5 y then (1) else (2))) else (bif Nat.ble 2 y then (bif Nat.ble 3 y then (0) else (0)) else (bif Nat.ble 1 y then (0) else (2)))))))
noncomputable def am_na (y : Nat) : Nat := bif Nat.ble 65 y then (bif Nat.ble 97 y then (bif Nat.ble 113 y then (bif Nat.ble 121 y then (bif Nat.ble 125 y then (bif Nat.ble 127 y then (bif Nat.ble 128 y then (bif Nat.ble 129 y then (1) else (2)) else (3)) else (bif Nat.ble 126 y then (3) else (5))) else (bif Nat.ble 123 y then (bif Nat.ble 124 y then (2) else (3)) else (bif Nat.ble 122 y then (3) else (2)))) else (bif Nat.ble 117 y then (bif Nat.ble 119 y then (bif Nat.ble 120 y then (2) else (2)) else (bif Nat.ble 118 y then (2) else (2))) else (bif Nat.ble 115 y then (bif Nat.ble 116 y then (2) else (2)) else (bif Nat.ble 114 y then (1) else (1))))) else (bif Nat.ble 105 y then (bif Nat.ble 109 y then (bif Nat.ble 111 y then (bif Nat.ble 112 y then (1) else (1)) else (bif Nat.ble 110 y then (2) else (2))) else (bif Nat.ble 107 y then (bif Nat.ble 108 y then (3) else (3)) else (bif Nat.ble 106 y then (3) else (2)))) else (bif Nat.ble 101 y then (bif Nat.ble 103 y then (bif Nat.ble 104 y then (2) else (4)) else (bif Nat.ble 102 y then (4) else (1))) else (bif Nat.ble 99 y then (bif Nat.ble 100 y then (2) else (0)) else (bif Nat.ble 98 y then (0) else (1)))))) else (bif Nat.ble 81 y then (bif Nat.ble 89 y then (bif Nat.ble 93 y then (bif Nat.ble 95 y then (bif Nat.ble 96 y then (1) else (0)) else (bif Nat.ble 94 y then (0) else (0))) else (bif Nat.ble 91 y then (bif Nat.ble 92 y then (2) else (3)) else (bif Nat.ble 90 y then (2) else (1)))) else (bif Nat.ble 85 y then (bif Nat.ble 87 y then (bif Nat.ble 88 y then (1) else (0)) else (bif Nat.ble 86 y then (1) else (1))) else (bif Nat.ble 83 y then (bif Nat.ble 84 y then (1) else (1)) else (bif Nat.ble 82 y then (3) else (2))))) else (bif Nat.ble 73 y then (bif Nat.ble 77 y then (bif Nat.ble 79 y then (bif Nat.ble 80 y then (1) else (0)) else (bif Nat.ble 78 y then (0) else (1))) else (bif Nat.ble 75 y then (bif Nat.ble 76 y then (1) else (1)) else (bif Nat.ble 74 y then (1) else (0)))) else (bif Nat.ble 69 y then (bif Nat.ble 71 y then (bif Nat.ble 72 y then (1) else (1)) else (bif Nat.ble 70 y then (2) else (1))) else (bif Nat.ble 67 y then (bif Nat.ble 68 y then (1) else (1)) else (bif Nat.ble 66 y then (1) else (1))))))) else (bif Nat.ble 32 y then (bif Nat.ble 48 y then (bif Nat.ble 56 y then (bif Nat.ble 60 y then (bif Nat.ble 62 y then (bif Nat.ble 63 y then (bif Nat.ble 64 y then (2) else (2)) else (2)) else (bif Nat.ble 61 y then (0) else (1))) else (bif Nat.ble 58 y then (bif Nat.ble 59 y then (1) else (1)) else (bif Nat.ble 57 y then (0) else (1)))) else (bif Nat.ble 52 y then (bif Nat.ble 54 y then (bif Nat.ble 55 y then (2) else (3)) else (bif Nat.ble 53 y then (2) else (3))) else (bif Nat.ble 50 y then (bif Nat.ble 51 y then (1) else (0)) else (bif Nat.ble 49 y then (6) else (1))))) else (bif Nat.ble 40 y then (bif Nat.ble 44 y then (bif Nat.ble 46 y then (bif Nat.ble 47 y then (0) else (0)) else (bif Nat.ble 45 y then (3) else (0))) else (bif Nat.ble 42 y then (bif Nat.ble 43 y then (0) else (0)) else (bif Nat.ble 41 y then (0) else (1)))) else (bif Nat.ble 36 y then (bif Nat.ble 38 y then (bif Nat.ble 39 y then (1) else (2)) else (bif Nat.ble 37 y then (1) else (1))) else (bif Nat.ble 34 y then (bif Nat.ble 35 y then (0) else (2)) else (bif Nat.ble 33 y then (1) else (0)))))) else (bif Nat.ble 16 y then (bif Nat.ble 24 y then (bif Nat.ble 28 y then (bif Nat.ble 30 y then (bif Nat.ble 31 y then (1) else (2)) else (bif Nat.ble 29 y then (1) else (1))) else (bif Nat.ble 26 y then (bif Nat.ble 27 y then (2) else (1)) else (bif Nat.ble 25 y then (2) else (3)))) else (bif Nat.ble 20 y then (bif Nat.ble 22 y then (bif Nat.ble 23 y then (2) else (3)) else (bif Nat.ble 21 y then (0) else (1))) else (bif Nat.ble 18 y then (bif Nat.ble 19 y then (1) else (1)) else (bif Nat.ble 17 y then (1) else (1))))) else (bif Nat.ble 8 y then (bif Nat.ble 12 y then (bif Nat.ble 14 y then (bif Nat.ble 15 y then (0) else (1)) else (bif Nat.ble 13 y then (1) else (0))) else (bif Nat.ble 10 y then (bif Nat.ble 11 y then (1) else (1)) else (bif Nat.ble 9 y then (3) else (2)))) else (bif Nat.ble 4 y then (bif Nat.ble 6 y then (bif Nat.ble 7 y then (2) else (5)) else (bif Nat.ble 5 y then (0) else (1))) else (bif Nat.ble 2 y then (bif Nat.ble 3 y then (2) else (3)) else (bif Nat.ble 1 y then (3) else (1)))))))
noncomputable def am_ci (y : Nat) : Nat := bif Nat.ble 65 y then (bif Nat.ble 97 y then (bif Nat.ble 113 y then (bif Nat.ble 121 y then (bif Nat.ble 125 y then (bif Nat.ble 127 y then (bif Nat.ble 128 y then (bif Nat.ble 129 y then (99) else (99)) else (99)) else (bif Nat.ble 126 y then (99) else (99))) else (bif Nat.ble 123 y then (bif Nat.ble 124 y then (99) else (99)) else (bif Nat.ble 122 y then (99) else (99)))) else (bif Nat.ble 117 y then (bif Nat.ble 119 y then (bif Nat.ble 120 y then (99) else (99)) else (bif Nat.ble 118 y then (99) else (99))) else (bif Nat.ble 115 y then (bif Nat.ble 116 y then (99) else (99)) else (bif Nat.ble 114 y then (99) else (99))))) else (bif Nat.ble 105 y then (bif Nat.ble 109 y then (bif Nat.ble 111 y then (bif Nat.ble 112 y then (99) else (99)) else (bif Nat.ble 110 y then (99) else (99))) else (bif Nat.ble 107 y then (bif Nat.ble 108 y then (99) else (99)) else (bif Nat.ble 106 y then (99) else (99)))) else (bif Nat.ble 101 y then (bif Nat.ble 103 y then (bif Nat.ble 104 y then (99) else (99)) else (bif Nat.ble 102 y then (99) else (99))) else (bif Nat.ble 99 y then (bif Nat.ble 100 y then (99) else (7)) else (bif Nat.ble 98 y then (7) else (7)))))) else (bif Nat.ble 81 y then (bif Nat.ble 89 y then (bif Nat.ble 93 y then (bif Nat.ble 95 y then (bif Nat.ble 96 y then (7) else (7)) else (bif Nat.ble 94 y then (8) else (8))) else (bif Nat.ble 91 y then (bif Nat.ble 92 y then (8) else (8)) else (bif Nat.ble 90 y then (8) else (8)))) else (bif Nat.ble 85 y then (bif Nat.ble 87 y then (bif Nat.ble 88 y then (8) else (8)) else (bif Nat.ble 86 y then (8) else (99))) else (bif Nat.ble 83 y then (bif Nat.ble 84 y then (99) else (99)) else (bif Nat.ble 82 y then (99) else (7))))) else (bif Nat.ble 73 y then (bif Nat.ble 77 y then (bif Nat.ble 79 y then (bif Nat.ble 80 y then (7) else (7)) else (bif Nat.ble 78 y then (7) else (7))) else (bif Nat.ble 75 y then (bif Nat.ble 76 y then (7) else (7)) else (bif Nat.ble 74 y then (7) else (7)))) else (bif Nat.ble 69 y then (bif Nat.ble 71 y then (bif Nat.ble 72 y then (99) else (6)) else (bif Nat.ble 70 y then (6) else (6))) else (bif Nat.ble 67 y then (bif Nat.ble 68 y then (6) else (6)) else (bif Nat.ble 66 y then (6) else (6))))))) else (bif Nat.ble 32 y then (bif Nat.ble 48 y then (bif Nat.ble 56 y then (bif Nat.ble 60 y then (bif Nat.ble 62 y then (bif Nat.ble 63 y then (bif Nat.ble 64 y then (6) else (6)) else (6)) else (bif Nat.ble 61 y then (6) else (6))) else (bif Nat.ble 58 y then (bif Nat.ble 59 y then (6) else (6)) else (bif Nat.ble 57 y then (6) else (6)))) else (bif Nat.ble 52 y then (bif Nat.ble 54 y then (bif Nat.ble 55 y then (6) else (6)) else (bif Nat.ble 53 y then (6) else (6))) else (bif Nat.ble 50 y then (bif Nat.ble 51 y then (6) else (6)) else (bif Nat.ble 49 y then (6) else (6))))) else (bif Nat.ble 40 y then (bif Nat.ble 44 y then (bif Nat.ble 46 y then (bif Nat.ble 47 y then (6) else (5)) else (bif Nat.ble 45 y then (4) else (4))) else (bif Nat.ble 42 y then (bif Nat.ble 43 y then (4) else (4)) else (bif Nat.ble 41 y then (4) else (4)))) else (bif Nat.ble 36 y then (bif Nat.ble 38 y then (bif Nat.ble 39 y then (4) else (4)) else (bif Nat.ble 37 y then (4) else (4))) else (bif Nat.ble 34 y then (bif Nat.ble 35 y then (4) else (4)) else (bif Nat.ble 33 y then (4) else (4)))))) else (bif Nat.ble 16 y then (bif Nat.ble 24 y then (bif Nat.ble 28 y then (bif Nat.ble 30 y then (bif Nat.ble 31 y then (3) else (3)) else (bif Nat.ble 29 y then (3) else (3))) else (bif Nat.ble 26 y then (bif Nat.ble 27 y then (3) else (3)) else (bif Nat.ble 25 y then (3) else (3)))) else (bif Nat.ble 20 y then (bif Nat.ble 22 y then (bif Nat.ble 23 y then (3) else (3)) else (bif Nat.ble 21 y then (3) else (3))) else (bif Nat.ble 18 y then (bif Nat.ble 19 y then (3) else (3)) else (bif Nat.ble 17 y then (3) else (3))))) else (bif Nat.ble 8 y then (bif Nat.ble 12 y then (bif Nat.ble 14 y then (bif Nat.ble 15 y then (3) else (2)) else (bif Nat.ble 13 y then (2) else (2))) else (bif Nat.ble 10 y then (bif Nat.ble 11 y then (2) else (1)) else (bif Nat.ble 9 y then (1) else (1)))) else (bif Nat.ble 4 y then (bif Nat.ble 6 y then (bif Nat.ble 7 y then (1) else (1)) else (bif Nat.ble 5 y then (1) else (1))) else (bif Nat.ble 2 y then (bif Nat.ble 3 y then (99) else (99)) else (bif Nat.ble 1 y then (99) else (0)))))))
noncomputable def am_hc (y : Nat) : Nat := bif Nat.ble 65 y then (bif Nat.ble 97 y then (bif Nat.ble 113 y then (bif Nat.ble 121 y then (bif Nat.ble 125 y then (bif Nat.ble 127 y then (bif Nat.ble 128 y then (bif Nat.ble 129 y then (0) else (30176)) else (30173)) else (bif Nat.ble 126 y then (30165) else (30168))) else (bif Nat.ble 123 y then (bif Nat.ble 124 y then (30162) else (30153)) else (bif Nat.ble 122 y then (30157) else (20158)))) else (bif Nat.ble 117 y then (bif Nat.ble 119 y then (bif Nat.ble 120 y then (20136) else (20133)) else (bif Nat.ble 118 y then (20130) else (20093))) else (bif Nat.ble 115 y then (bif Nat.ble 116 y then (20090) else (20087)) else (bif Nat.ble 114 y then (20127) else (20084))))) else (bif Nat.ble 105 y then (bif Nat.ble 109 y then (bif Nat.ble 111 y then (bif Nat.ble 112 y then (20161) else (20081)) else (bif Nat.ble 110 y then (30128) else (20078))) else (bif Nat.ble 107 y then (bif Nat.ble 108 y then (20214) else (30101)) else (bif Nat.ble 106 y then (30098) else (30104)))) else (bif Nat.ble 101 y then (bif Nat.ble 103 y then (bif Nat.ble 104 y then (20223) else (10000)) else (bif Nat.ble 102 y then (228) else (231))) else (bif Nat.ble 99 y then (bif Nat.ble 100 y then (158) else (30092)) else (bif Nat.ble 98 y then (30072) else (30044)))))) else (bif Nat.ble 81 y then (bif Nat.ble 89 y then (bif Nat.ble 93 y then (bif Nat.ble 95 y then (bif Nat.ble 96 y then (20196) else (20166)) else (bif Nat.ble 94 y then (155) else (145))) else (bif Nat.ble 91 y then (bif Nat.ble 92 y then (30080) else (30038)) else (bif Nat.ble 90 y then (224) else (220)))) else (bif Nat.ble 85 y then (bif Nat.ble 87 y then (bif Nat.ble 88 y then (151) else (141)) else (bif Nat.ble 86 y then (30077) else (30179))) else (bif Nat.ble 83 y then (bif Nat.ble 84 y then (10232) else (30050)) else (bif Nat.ble 82 y then (30053) else (30010))))) else (bif Nat.ble 73 y then (bif Nat.ble 77 y then (bif Nat.ble 79 y then (bif Nat.ble 80 y then (30014) else (20239)) else (bif Nat.ble 78 y then (30086) else (30047))) else (bif Nat.ble 75 y then (bif Nat.ble 76 y then (20199) else (20211)) else (bif Nat.ble 74 y then (20207) else (30094)))) else (bif Nat.ble 69 y then (bif Nat.ble 71 y then (bif Nat.ble 72 y then (20169) else (20075)) else (bif Nat.ble 70 y then (20071) else (20143))) else (bif Nat.ble 67 y then (bif Nat.ble 68 y then (20100) else (20103)) else (bif Nat.ble 66 y then (20046) else (30137))))))) else (bif Nat.ble 32 y then (bif Nat.ble 48 y then (bif Nat.ble 56 y then (bif Nat.ble 60 y then (bif Nat.ble 62 y then (bif Nat.ble 63 y then (bif Nat.ble 64 y then (10187) else (20067)) else (20043)) else (bif Nat.ble 61 y then (20033) else (20024))) else (bif Nat.ble 58 y then (bif Nat.ble 59 y then (10239) else (10228)) else (bif Nat.ble 57 y then (10216) else (10203)))) else (bif Nat.ble 52 y then (bif Nat.ble 54 y then (bif Nat.ble 55 y then (10191) else (20140)) else (bif Nat.ble 53 y then (10176) else (20097))) else (bif Nat.ble 50 y then (bif Nat.ble 51 y then (30150) else (30142)) else (bif Nat.ble 49 y then (30134) else (10172))))) else (bif Nat.ble 40 y then (bif Nat.ble 44 y then (bif Nat.ble 46 y then (bif Nat.ble 47 y then (26) else (10126)) else (bif Nat.ble 45 y then (200) else (208))) else (bif Nat.ble 42 y then (bif Nat.ble 43 y then (215) else (204)) else (bif Nat.ble 41 y then (197) else (10051)))) else (bif Nat.ble 36 y then (bif Nat.ble 38 y then (bif Nat.ble 39 y then (10059) else (10047)) else (bif Nat.ble 37 y then (10055) else (10039))) else (bif Nat.ble 34 y then (bif Nat.ble 35 y then (10043) else (193)) else (bif Nat.ble 33 y then (189) else (103)))))) else (bif Nat.ble 16 y then (bif Nat.ble 24 y then (bif Nat.ble 28 y then (bif Nat.ble 30 y then (bif Nat.ble 31 y then (20038) else (10220)) else (bif Nat.ble 29 y then (20028) else (10207))) else (bif Nat.ble 26 y then (bif Nat.ble 27 y then (10211) else (20121)) else (bif Nat.ble 25 y then (20155) else (20151)))) else (bif Nat.ble 20 y then (bif Nat.ble 22 y then (bif Nat.ble 23 y then (20111) else (20107)) else (bif Nat.ble 21 y then (10224) else (20147))) else (bif Nat.ble 18 y then (bif Nat.ble 19 y then (10199) else (10184)) else (bif Nat.ble 17 y then (10195) else (10180))))) else (bif Nat.ble 8 y then (bif Nat.ble 12 y then (bif Nat.ble 14 y then (bif Nat.ble 15 y then (34) else (20061)) else (bif Nat.ble 13 y then (20050) else (20054))) else (bif Nat.ble 10 y then (bif Nat.ble 11 y then (10093) else (20015)) else (bif Nat.ble 9 y then (20018) else (20012)))) else (bif Nat.ble 4 y then (bif Nat.ble 6 y then (bif Nat.ble 7 y then (20003) else (20007)) else (bif Nat.ble 5 y then (30146) else (97))) else (bif Nat.ble 2 y then (bif Nat.ble 3 y then (20114) else (20117)) else (bif Nat.ble 1 y then (20124) else (10112)))))))
noncomputable def am_hk (y : Nat) : Nat := bif Nat.ble 65 y then (bif Nat.ble 97 y then (bif Nat.ble 113 y then (bif Nat.ble 121 y then (bif Nat.ble 125 y then (bif Nat.ble 127 y then (bif Nat.ble 128 y then (bif Nat.ble 129 y then (0) else (30175)) else (30172)) else (bif Nat.ble 126 y then (30164) else (30167))) else (bif Nat.ble 123 y then (bif Nat.ble 124 y then (30161) else (30152)) else (bif Nat.ble 122 y then (30156) else (20157)))) else (bif Nat.ble 117 y then (bif Nat.ble 119 y then (bif Nat.ble 120 y then (20135) else (20132)) else (bif Nat.ble 118 y then (20129) else (20092))) else (bif Nat.ble 115 y then (bif Nat.ble 116 y then (20089) else (20086)) else (bif Nat.ble 114 y then (20126) else (20083))))) else (bif Nat.ble 105 y then (bif Nat.ble 109 y then (bif Nat.ble 111 y then (bif Nat.ble 112 y then (20160) else (20080)) else (bif Nat.ble 110 y then (30127) else (20077))) else (bif Nat.ble 107 y then (bif Nat.ble 108 y then (20213) else (30100)) else (bif Nat.ble 106 y then (30097) else (30103)))) else (bif Nat.ble 101 y then (bif Nat.ble 103 y then (bif Nat.ble 104 y then (20222) else (239)) else (bif Nat.ble 102 y then (227) else (230))) else (bif Nat.ble 99 y then (bif Nat.ble 100 y then (157) else (30091)) else (bif Nat.ble 98 y then (30070) else (30042)))))) else (bif Nat.ble 81 y then (bif Nat.ble 89 y then (bif Nat.ble 93 y then (bif Nat.ble 95 y then (bif Nat.ble 96 y then (20194) else (20165)) else (bif Nat.ble 94 y then (153) else (143))) else (bif Nat.ble 91 y then (bif Nat.ble 92 y then (30079) else (30036)) else (bif Nat.ble 90 y then (222) else (218)))) else (bif Nat.ble 85 y then (bif Nat.ble 87 y then (bif Nat.ble 88 y then (149) else (139)) else (bif Nat.ble 86 y then (30076) else (30178))) else (bif Nat.ble 83 y then (bif Nat.ble 84 y then (10231) else (30049)) else (bif Nat.ble 82 y then (30052) else (30009))))) else (bif Nat.ble 73 y then (bif Nat.ble 77 y then (bif Nat.ble 79 y then (bif Nat.ble 80 y then (30013) else (20236)) else (bif Nat.ble 78 y then (30083) else (30046))) else (bif Nat.ble 75 y then (bif Nat.ble 76 y then (20198) else (20210)) else (bif Nat.ble 74 y then (20206) else (30088)))) else (bif Nat.ble 69 y then (bif Nat.ble 71 y then (bif Nat.ble 72 y then (20168) else (20074)) else (bif Nat.ble 70 y then (20070) else (20142))) else (bif Nat.ble 67 y then (bif Nat.ble 68 y then (20099) else (20102)) else (bif Nat.ble 66 y then (20045) else (30136))))))) else (bif Nat.ble 32 y then (bif Nat.ble 48 y then (bif Nat.ble 56 y then (bif Nat.ble 60 y then (bif Nat.ble 62 y then (bif Nat.ble 63 y then (bif Nat.ble 64 y then (10186) else (20065)) else (20041)) else (bif Nat.ble 61 y then (20031) else (20022))) else (bif Nat.ble 58 y then (bif Nat.ble 59 y then (10237) else (10226)) else (bif Nat.ble 57 y then (10214) else (10201)))) else (bif Nat.ble 52 y then (bif Nat.ble 54 y then (bif Nat.ble 55 y then (10189) else (20138)) else (bif Nat.ble 53 y then (10174) else (20095))) else (bif Nat.ble 50 y then (bif Nat.ble 51 y then (30148) else (30140)) else (bif Nat.ble 49 y then (30132) else (10170))))) else (bif Nat.ble 40 y then (bif Nat.ble 44 y then (bif Nat.ble 46 y then (bif Nat.ble 47 y then (25) else (10125)) else (bif Nat.ble 45 y then (199) else (207))) else (bif Nat.ble 42 y then (bif Nat.ble 43 y then (214) else (203)) else (bif Nat.ble 41 y then (196) else (10050)))) else (bif Nat.ble 36 y then (bif Nat.ble 38 y then (bif Nat.ble 39 y then (10058) else (10046)) else (bif Nat.ble 37 y then (10054) else (10038))) else (bif Nat.ble 34 y then (bif Nat.ble 35 y then (10042) else (191)) else (bif Nat.ble 33 y then (187) else (102)))))) else (bif Nat.ble 16 y then (bif Nat.ble 24 y then (bif Nat.ble 28 y then (bif Nat.ble 30 y then (bif Nat.ble 31 y then (20036) else (10218)) else (bif Nat.ble 29 y then (20026) else (10205))) else (bif Nat.ble 26 y then (bif Nat.ble 27 y then (10209) else (20120)) else (bif Nat.ble 25 y then (20153) else (20149)))) else (bif Nat.ble 20 y then (bif Nat.ble 22 y then (bif Nat.ble 23 y then (20109) else (20105)) else (bif Nat.ble 21 y then (10222) else (20145))) else (bif Nat.ble 18 y then (bif Nat.ble 19 y then (10197) else (10182)) else (bif Nat.ble 17 y then (10193) else (10178))))) else (bif Nat.ble 8 y then (bif Nat.ble 12 y then (bif Nat.ble 14 y then (bif Nat.ble 15 y then (33) else (20059)) else (bif Nat.ble 13 y then (20048) else (20053))) else (bif Nat.ble 10 y then (bif Nat.ble 11 y then (10092) else (20014)) else (bif Nat.ble 9 y then (20017) else (20011)))) else (bif Nat.ble 4 y then (bif Nat.ble 6 y then (bif Nat.ble 7 y then (20001) else (20005)) else (bif Nat.ble 5 y then (30144) else (96))) else (bif Nat.ble 2 y then (bif Nat.ble 3 y then (20113) else (20116)) else (bif Nat.ble 1 y then (20123) else (10111)))))))
noncomputable def am_hs (y : Nat) : Nat := bif Nat.ble 65 y then (bif Nat.ble 97 y then (bif Nat.ble 113 y then (bif Nat.ble 121 y then (bif Nat.ble 125 y then (bif Nat.ble 127 y then (bif Nat.ble 128 y then (bif Nat.ble 129 y then (0) else (0)) else (0)) else (bif Nat.ble 126 y then (0) else (0))) else (bif Nat.ble 123 y then (bif Nat.ble 124 y then (0) else (0)) else (bif Nat.ble 122 y then (0) else (0)))) else (bif Nat.ble 117 y then (bif Nat.ble 119 y then (bif Nat.ble 120 y then (0) else (0)) else (bif Nat.ble 118 y then (0) else (0))) else (bif Nat.ble 115 y then (bif Nat.ble 116 y then (0) else (0)) else (bif Nat.ble 114 y then (0) else (0))))) else (bif Nat.ble 105 y then (bif Nat.ble 109 y then (bif Nat.ble 111 y then (bif Nat.ble 112 y then (0) else (0)) else (bif Nat.ble 110 y then (0) else (0))) else (bif Nat.ble 107 y then (bif Nat.ble 108 y then (0) else (0)) else (bif Nat.ble 106 y then (0) else (0)))) else (bif Nat.ble 101 y then (bif Nat.ble 103 y then (bif Nat.ble 104 y then (0) else (0)) else (bif Nat.ble 102 y then (0) else (0))) else (bif Nat.ble 99 y then (bif Nat.ble 100 y then (0) else (30090)) else (bif Nat.ble 98 y then (30071) else (30043)))))) else (bif Nat.ble 81 y then (bif Nat.ble 89 y then (bif Nat.ble 93 y then (bif Nat.ble 95 y then (bif Nat.ble 96 y then (20195) else (0)) else (bif Nat.ble 94 y then (154) else (144))) else (bif Nat.ble 91 y then (bif Nat.ble 92 y then (0) else (30037)) else (bif Nat.ble 90 y then (223) else (219)))) else (bif Nat.ble 85 y then (bif Nat.ble 87 y then (bif Nat.ble 88 y then (150) else (140)) else (bif Nat.ble 86 y then (0) else (0))) else (bif Nat.ble 83 y then (bif Nat.ble 84 y then (0) else (0)) else (bif Nat.ble 82 y then (0) else (50002))))) else (bif Nat.ble 73 y then (bif Nat.ble 77 y then (bif Nat.ble 79 y then (bif Nat.ble 80 y then (50003) else (20238)) else (bif Nat.ble 78 y then (30085) else (0))) else (bif Nat.ble 75 y then (bif Nat.ble 76 y then (0) else (50001)) else (bif Nat.ble 74 y then (50000) else (0)))) else (bif Nat.ble 69 y then (bif Nat.ble 71 y then (bif Nat.ble 72 y then (0) else (40013)) else (bif Nat.ble 70 y then (40012) else (0))) else (bif Nat.ble 67 y then (bif Nat.ble 68 y then (0) else (0)) else (bif Nat.ble 66 y then (0) else (0))))))) else (bif Nat.ble 32 y then (bif Nat.ble 48 y then (bif Nat.ble 56 y then (bif Nat.ble 60 y then (bif Nat.ble 62 y then (bif Nat.ble 63 y then (bif Nat.ble 64 y then (0) else (20066)) else (20042)) else (bif Nat.ble 61 y then (20032) else (20023))) else (bif Nat.ble 58 y then (bif Nat.ble 59 y then (10238) else (10227)) else (bif Nat.ble 57 y then (10215) else (10202)))) else (bif Nat.ble 52 y then (bif Nat.ble 54 y then (bif Nat.ble 55 y then (10190) else (20139)) else (bif Nat.ble 53 y then (10175) else (20096))) else (bif Nat.ble 50 y then (bif Nat.ble 51 y then (30149) else (30141)) else (bif Nat.ble 49 y then (30133) else (10171))))) else (bif Nat.ble 40 y then (bif Nat.ble 44 y then (bif Nat.ble 46 y then (bif Nat.ble 47 y then (0) else (0)) else (bif Nat.ble 45 y then (0) else (40002))) else (bif Nat.ble 42 y then (bif Nat.ble 43 y then (40003) else (40001)) else (bif Nat.ble 41 y then (40000) else (40007)))) else (bif Nat.ble 36 y then (bif Nat.ble 38 y then (bif Nat.ble 39 y then (40009) else (40006)) else (bif Nat.ble 37 y then (40008) else (40004))) else (bif Nat.ble 34 y then (bif Nat.ble 35 y then (40005) else (192)) else (bif Nat.ble 33 y then (188) else (0)))))) else (bif Nat.ble 16 y then (bif Nat.ble 24 y then (bif Nat.ble 28 y then (bif Nat.ble 30 y then (bif Nat.ble 31 y then (20037) else (10219)) else (bif Nat.ble 29 y then (20027) else (10206))) else (bif Nat.ble 26 y then (bif Nat.ble 27 y then (10210) else (40014)) else (bif Nat.ble 25 y then (20154) else (20150)))) else (bif Nat.ble 20 y then (bif Nat.ble 22 y then (bif Nat.ble 23 y then (20110) else (20106)) else (bif Nat.ble 21 y then (10223) else (20146))) else (bif Nat.ble 18 y then (bif Nat.ble 19 y then (10198) else (10183)) else (bif Nat.ble 17 y then (10194) else (10179))))) else (bif Nat.ble 8 y then (bif Nat.ble 12 y then (bif Nat.ble 14 y then (bif Nat.ble 15 y then (0) else (20060)) else (bif Nat.ble 13 y then (20049) else (40011))) else (bif Nat.ble 10 y then (bif Nat.ble 11 y then (0) else (0)) else (bif Nat.ble 9 y then (0) else (40010)))) else (bif Nat.ble 4 y then (bif Nat.ble 6 y then (bif Nat.ble 7 y then (20002) else (20006)) else (bif Nat.ble 5 y then (30145) else (0))) else (bif Nat.ble 2 y then (bif Nat.ble 3 y then (0) else (0)) else (bif Nat.ble 1 y then (0) else (0)))))))
noncomputable def am_hi (y : Nat) : Nat := bif Nat.ble 65 y then (bif Nat.ble 97 y then (bif Nat.ble 113 y then (bif Nat.ble 121 y then (bif Nat.ble 125 y then (bif Nat.ble 127 y then (bif Nat.ble 128 y then (bif Nat.ble 129 y then (0) else (0)) else (0)) else (bif Nat.ble 126 y then (0) else (0))) else (bif Nat.ble 123 y then (bif Nat.ble 124 y then (0) else (0)) else (bif Nat.ble 122 y then (0) else (0)))) else (bif Nat.ble 117 y then (bif Nat.ble 119 y then (bif Nat.ble 120 y then (0) else (0)) else (bif Nat.ble 118 y then (0) else (0))) else (bif Nat.ble 115 y then (bif Nat.ble 116 y then (0) else (0)) else (bif Nat.ble 114 y then (0) else (0))))) else (bif Nat.ble 105 y then (bif Nat.ble 109 y then (bif Nat.ble 111 y then (bif Nat.ble 112 y then (0) else (0)) else (bif Nat.ble 110 y then (0) else (0))) else (bif Nat.ble 107 y then (bif Nat.ble 108 y then (18) else (19)) else (bif Nat.ble 106 y then (19) else (19)))) else (bif Nat.ble 101 y then (bif Nat.ble 103 y then (bif Nat.ble 104 y then (19) else (6)) else (bif Nat.ble 102 y then (6) else (6))) else (bif Nat.ble 99 y then (bif Nat.ble 100 y then (6) else (17)) else (bif Nat.ble 98 y then (17) else (17)))))) else (bif Nat.ble 81 y then (bif Nat.ble 89 y then (bif Nat.ble 93 y then (bif Nat.ble 95 y then (bif Nat.ble 96 y then (17) else (17)) else (bif Nat.ble 94 y then (5) else (5))) else (bif Nat.ble 91 y then (bif Nat.ble 92 y then (5) else (5)) else (bif Nat.ble 90 y then (5) else (5)))) else (bif Nat.ble 85 y then (bif Nat.ble 87 y then (bif Nat.ble 88 y then (5) else (5)) else (bif Nat.ble 86 y then (5) else (21))) else (bif Nat.ble 83 y then (bif Nat.ble 84 y then (15) else (15)) else (bif Nat.ble 82 y then (15) else (16))))) else (bif Nat.ble 73 y then (bif Nat.ble 77 y then (bif Nat.ble 79 y then (bif Nat.ble 80 y then (16) else (16)) else (bif Nat.ble 78 y then (16) else (16))) else (bif Nat.ble 75 y then (bif Nat.ble 76 y then (16) else (16)) else (bif Nat.ble 74 y then (16) else (16)))) else (bif Nat.ble 69 y then (bif Nat.ble 71 y then (bif Nat.ble 72 y then (16) else (1)) else (bif Nat.ble 70 y then (1) else (1))) else (bif Nat.ble 67 y then (bif Nat.ble 68 y then (1) else (1)) else (bif Nat.ble 66 y then (1) else (1))))))) else (bif Nat.ble 32 y then (bif Nat.ble 48 y then (bif Nat.ble 56 y then (bif Nat.ble 60 y then (bif Nat.ble 62 y then (bif Nat.ble 63 y then (bif Nat.ble 64 y then (1) else (1)) else (1)) else (bif Nat.ble 61 y then (1) else (1))) else (bif Nat.ble 58 y then (bif Nat.ble 59 y then (1) else (1)) else (bif Nat.ble 57 y then (1) else (1)))) else (bif Nat.ble 52 y then (bif Nat.ble 54 y then (bif Nat.ble 55 y then (1) else (1)) else (bif Nat.ble 53 y then (1) else (1))) else (bif Nat.ble 50 y then (bif Nat.ble 51 y then (1) else (1)) else (bif Nat.ble 49 y then (1) else (1))))) else (bif Nat.ble 40 y then (bif Nat.ble 44 y then (bif Nat.ble 46 y then (bif Nat.ble 47 y then (1) else (13)) else (bif Nat.ble 45 y then (4) else (4))) else (bif Nat.ble 42 y then (bif Nat.ble 43 y then (4) else (4)) else (bif Nat.ble 41 y then (4) else (4)))) else (bif Nat.ble 36 y then (bif Nat.ble 38 y then (bif Nat.ble 39 y then (4) else (4)) else (bif Nat.ble 37 y then (4) else (4))) else (bif Nat.ble 34 y then (bif Nat.ble 35 y then (4) else (4)) else (bif Nat.ble 33 y then (4) else (4)))))) else (bif Nat.ble 16 y then (bif Nat.ble 24 y then (bif Nat.ble 28 y then (bif Nat.ble 30 y then (bif Nat.ble 31 y then (2) else (2)) else (bif Nat.ble 29 y then (2) else (2))) else (bif Nat.ble 26 y then (bif Nat.ble 27 y then (2) else (2)) else (bif Nat.ble 25 y then (2) else (2)))) else (bif Nat.ble 20 y then (bif Nat.ble 22 y then (bif Nat.ble 23 y then (2) else (2)) else (bif Nat.ble 21 y then (2) else (2))) else (bif Nat.ble 18 y then (bif Nat.ble 19 y then (2) else (2)) else (bif Nat.ble 17 y then (2) else (2))))) else (bif Nat.ble 8 y then (bif Nat.ble 12 y then (bif Nat.ble 14 y then (bif Nat.ble 15 y then (2) else (11)) else (bif Nat.ble 13 y then (11) else (11))) else (bif Nat.ble 10 y then (bif Nat.ble 11 y then (11) else (3)) else (bif Nat.ble 9 y then (3) else (3)))) else (bif Nat.ble 4 y then (bif Nat.ble 6 y then (bif Nat.ble 7 y then (3) else (3)) else (bif Nat.ble 5 y then (3) else (3))) else (bif Nat.ble 2 y then (bif Nat.ble 3 y then (14) else (14)) else (bif Nat.ble 1 y then (14) else (12)))))))
noncomputable def am_cl (y : Nat) : Nat := bif Nat.ble 65 y then (bif Nat.ble 97 y then (bif Nat.ble 113 y then (bif Nat.ble 121 y then (bif Nat.ble 125 y then (bif Nat.ble 127 y then (bif Nat.ble 128 y then (bif Nat.ble 129 y then (903) else (81)) else (27)) else (bif Nat.ble 126 y then (67) else (146))) else (bif Nat.ble 123 y then (bif Nat.ble 124 y then (127) else (49)) else (bif Nat.ble 122 y then (10) else (24)))) else (bif Nat.ble 117 y then (bif Nat.ble 119 y then (bif Nat.ble 120 y then (45) else (14)) else (bif Nat.ble 118 y then (15) else (17))) else (bif Nat.ble 115 y then (bif Nat.ble 116 y then (16) else (14)) else (bif Nat.ble 114 y then (14) else (10))))) else (bif Nat.ble 105 y then (bif Nat.ble 109 y then (bif Nat.ble 111 y then (bif Nat.ble 112 y then (18) else (186)) else (bif Nat.ble 110 y then (32) else (14))) else (bif Nat.ble 107 y then (bif Nat.ble 108 y then (27) else (33)) else (bif Nat.ble 106 y then (25) else (38)))) else (bif Nat.ble 101 y then (bif Nat.ble 103 y then (bif Nat.ble 104 y then (33) else (33)) else (bif Nat.ble 102 y then (37) else (17))) else (bif Nat.ble 99 y then (bif Nat.ble 100 y then (15) else (5)) else (bif Nat.ble 98 y then (9) else (8)))))) else (bif Nat.ble 81 y then (bif Nat.ble 89 y then (bif Nat.ble 93 y then (bif Nat.ble 95 y then (bif Nat.ble 96 y then (8) else (7)) else (bif Nat.ble 94 y then (19) else (15))) else (bif Nat.ble 91 y then (bif Nat.ble 92 y then (98) else (44)) else (bif Nat.ble 90 y then (37) else (7)))) else (bif Nat.ble 85 y then (bif Nat.ble 87 y then (bif Nat.ble 88 y then (25) else (11)) else (bif Nat.ble 86 y then (7) else (61))) else (bif Nat.ble 83 y then (bif Nat.ble 84 y then (53) else (47)) else (bif Nat.ble 82 y then (121) else (19))))) else (bif Nat.ble 73 y then (bif Nat.ble 77 y then (bif Nat.ble 79 y then (bif Nat.ble 80 y then (22) else (19)) else (bif Nat.ble 78 y then (5) else (55))) else (bif Nat.ble 75 y then (bif Nat.ble 76 y then (45) else (59)) else (bif Nat.ble 74 y then (39) else (5)))) else (bif Nat.ble 69 y then (bif Nat.ble 71 y then (bif Nat.ble 72 y then (39) else (44)) else (bif Nat.ble 70 y then (166) else (15))) else (bif Nat.ble 67 y then (bif Nat.ble 68 y then (16) else (16)) else (bif Nat.ble 66 y then (15) else (17))))))) else (bif Nat.ble 32 y then (bif Nat.ble 48 y then (bif Nat.ble 56 y then (bif Nat.ble 60 y then (bif Nat.ble 62 y then (bif Nat.ble 63 y then (bif Nat.ble 64 y then (14) else (35)) else (62)) else (bif Nat.ble 61 y then (25) else (25))) else (bif Nat.ble 58 y then (bif Nat.ble 59 y then (59) else (79)) else (bif Nat.ble 57 y then (22) else (25)))) else (bif Nat.ble 52 y then (bif Nat.ble 54 y then (bif Nat.ble 55 y then (110) else (86)) else (bif Nat.ble 53 y then (94) else (62))) else (bif Nat.ble 50 y then (bif Nat.ble 51 y then (36) else (51)) else (bif Nat.ble 49 y then (151) else (106))))) else (bif Nat.ble 40 y then (bif Nat.ble 44 y then (bif Nat.ble 46 y then (bif Nat.ble 47 y then (132) else (23)) else (bif Nat.ble 45 y then (16) else (105))) else (bif Nat.ble 42 y then (bif Nat.ble 43 y then (95) else (82)) else (bif Nat.ble 41 y then (205) else (142)))) else (bif Nat.ble 36 y then (bif Nat.ble 38 y then (bif Nat.ble 39 y then (142) else (128)) else (bif Nat.ble 37 y then (40) else (20))) else (bif Nat.ble 34 y then (bif Nat.ble 35 y then (13) else (97)) else (bif Nat.ble 33 y then (31) else (56)))))) else (bif Nat.ble 16 y then (bif Nat.ble 24 y then (bif Nat.ble 28 y then (bif Nat.ble 30 y then (bif Nat.ble 31 y then (47) else (116)) else (bif Nat.ble 29 y then (53) else (49))) else (bif Nat.ble 26 y then (bif Nat.ble 27 y then (59) else (69)) else (bif Nat.ble 25 y then (13) else (40)))) else (bif Nat.ble 20 y then (bif Nat.ble 22 y then (bif Nat.ble 23 y then (67) else (40)) else (bif Nat.ble 21 y then (9) else (25))) else (bif Nat.ble 18 y then (bif Nat.ble 19 y then (33) else (9)) else (bif Nat.ble 17 y then (18) else (18))))) else (bif Nat.ble 8 y then (bif Nat.ble 12 y then (bif Nat.ble 14 y then (bif Nat.ble 15 y then (86) else (90)) else (bif Nat.ble 13 y then (80) else (143))) else (bif Nat.ble 10 y then (bif Nat.ble 11 y then (36) else (10)) else (bif Nat.ble 9 y then (114) else (198)))) else (bif Nat.ble 4 y then (bif Nat.ble 6 y then (bif Nat.ble 7 y then (18) else (116)) else (bif Nat.ble 5 y then (51) else (128))) else (bif Nat.ble 2 y then (bif Nat.ble 3 y then (27) else (54)) else (bif Nat.ble 1 y then (57) else (18)))))))
noncomputable def am_tb (y pc : Nat) : Option am_I := bif Nat.ble (am_cl y) pc then none else bif Nat.ble am_N y then none else am_tb0 y pc
end
section
/-! ===== what a table row must say of the code and of the tables' words ===== -/
def am_stx (i : Nat) : String := match i with
  | 0 => "takes 0 ; saws 10 + sort * 5 ; minds 1 ;"
  | 1 => "();+-*<="
  | 2 => "takes saws minds or and not more sort hour thing many kind "
  | 3 => "takes more+sort*"
  | 4 => "-kind;saws many*"
  | 5 => "+thing;minds hour+more*"
  | _ => ";"
/-- where a String constant is loaded -/
def am_lds (a : Nat) (own : String) (idx : Nat) : Bool := decide (a = 0 ∧ own = "LockedToAnothers$LawBook" ∧ idx = 42) || (decide (a = 1 ∧ own = "LockedToAnothers$Reader" ∧ idx = 74) || (decide (a = 2 ∧ own = "LockedToAnothers$Reader" ∧ idx = 84) || (decide (a = 3 ∧ own = "LockedToAnothersLaw" ∧ idx = 74) || (decide (a = 4 ∧ own = "LockedToAnothersLaw" ∧ idx = 86) || (decide (a = 5 ∧ own = "LockedToAnothersLaw" ∧ idx = 88) || (decide (a = 6 ∧ own = "LockedToAnothersLaw" ∧ idx = 90)))))))
def am_len (i : Instr) : Nat := match i with
  | .bipush _ => 2
  | .iload _ => 2
  | .lload _ => 2
  | .aload _ => 2
  | .istore _ => 2
  | .lstore _ => 2
  | .astore _ => 2
  | .newarray _ => 2
  | .ldc _ => 2
  | .sipush _ => 3
  | .iinc _ _ => 3
  | .goto _ => 3
  | .ifCond _ _ => 3
  | .if_icmp _ _ => 3
  | .ifnull _ => 3
  | .ifnonnull _ => 3
  | .getfield _ => 3
  | .putfield _ => 3
  | .getstatic _ => 3
  | .new _ => 3
  | .anewarray _ => 3
  | .ldc_w _ => 3
  | .ldc2_w _ => 3
  | .invokestatic _ => 3
  | .invokevirtual _ => 3
  | .invokespecial _ => 3
  | .multianewarray _ _ => 4
  | _ => 1
noncomputable def am_dkB (y pc : Nat) (i : Instr) : Bool := match i with
  | .tableswitch _ _ _ _ => (match decode (am_code y) pc with
    | .ok (j, _) => decide (j = i)
    | _ => false)
  | .lookupswitch _ _ => (match decode (am_code y) pc with
    | .ok (j, _) => decide (j = i)
    | _ => false)
  | i => decide (decode (am_code y) pc = .ok (i, am_len i))
def am_sub (j : Nat) : List Jvm.Cond := match j with
  | 0 => tables_1_1
  | 1 => tables_1_2
  | 2 => tables_1_3
  | 3 => tables_1_4
  | 4 => k2_sels lw_privs
  | _ => am_selj
theorem am_sub_in (j : Nat) : ∀ w ∈ am_sub j, w ∈ wt_tbl := by
  intro w hw
  unfold wt_tbl lw_tbl tables_1
  simp only [List.mem_append]
  unfold am_sub at hw
  split at hw <;> simp [hw]
def am_isw (hint : Nat) (w : Jvm.Cond) : Bool := decide ((am_sub (hint / 10000))[hint % 10000]? = some w)
theorem am_isw_mem {hint : Nat} {w : Jvm.Cond} (h : am_isw hint w = true) : w ∈ wt_tbl := am_sub_in _ w (List.mem_of_getElem? (of_decide_eq_true h))
/-- a lookupswitch's targets fit its pairs -/
def am_lok (pc : Nat) : List (Int × Int) → List (Nat × List Nat) → Bool
  | [], [] => true
  | p :: ps, t :: ts => decide ((pc : Int) + p.2 = (t.1 : Int)) && am_lok pc ps ts
  | _, _ => false
/-- a tableswitch's targets fit its offsets -/
def am_tok (pc : Nat) : List Int → List (Nat × List Nat) → Bool
  | [], [] => true
  | o :: os, t :: ts => decide ((pc : Int) + o = (t.1 : Int)) && am_tok pc os ts
  | _, _ => false
noncomputable def am_lkB (y pc : Nat) (i : Instr) (a b hint : Nat) (tg : List (Nat × List Nat)) : Bool := match i with
  | .goto off => decide ((pc : Int) + off = (a : Int))
  | .ifCond _ off => decide ((pc : Int) + off = (a : Int))
  | .if_icmp _ off => decide ((pc : Int) + off = (a : Int))
  | .ifnull off => decide ((pc : Int) + off = (a : Int))
  | .ifnonnull off => decide ((pc : Int) + off = (a : Int))
  | .tableswitch dflt lo hi offs => (match tg with
    | [] => true
    | dd :: ts => decide ((pc : Int) + dflt = (dd.1 : Int)) && (decide (hi = lo + (ts.length : Int) - 1) && am_tok pc offs.toList ts))
  | .lookupswitch dflt ps => (match tg with
    | [] => true
    | dd :: ts => decide ((pc : Int) + dflt = (dd.1 : Int)) && ((ps.toList.zip (ps.toList.drop 1)).all (fun (a, next) => a.1 < next.1) && am_lok pc ps.toList ts))
  | .getfield idx => Nat.ble (a + 1) 9 && (Nat.ble (b + 1) (am_Nf a) && am_isw hint (.fieldLink (am_nm y).cls idx (am_T a b).1 (am_T a b).2.1 (am_T a b).2.2.1))
  | .putfield idx => (Nat.ble (a + 1) 9 && (Nat.ble (b + 1) (am_Nf a) && am_isw hint (.fieldLink (am_nm y).cls idx (am_T a b).1 (am_T a b).2.1 (am_T a b).2.2.1))) && (decide ((am_T a b).2.2.2 = false) || (decide ((am_T a b).2.2.2 = true) && (decide ((am_nm y).name = "<init>") && decide ((am_T a b).1 = (am_nm y).cls))))
  | .getstatic idx => (decide (a = 0) && am_isw hint (.fieldLink (am_nm y).cls idx "LockedToAnothers$Kinds" "ABOVE" "[I")) || ((decide (a = 1) && am_isw hint (.fieldLink (am_nm y).cls idx "java/lang/String" "COMPACT_STRINGS" "Z")) || (decide (a = 2) && am_isw hint (.fieldLink (am_nm y).cls idx "java/lang/Integer" "DigitOnes" "[B")))
  | .ldc idx => (match b with
    | 0 => am_isw hint (.constant (am_nm y).cls idx (Int32.ofNat a))
    | _ => decide (b = 7) && am_lds a (am_nm y).cls idx)
  | .ldc_w idx => am_isw hint (.constant (am_nm y).cls idx (Int32.ofNat a))
  | .ldc2_w idx => (decide (b = 1) && am_isw hint (.constantLong (am_nm y).cls idx (Int64.ofNat a))) || (decide (b = 2) && am_isw hint (.constantLong (am_nm y).cls idx (-(Int64.ofNat a))))
  | .new idx => Nat.ble (a + 1) 9 && am_isw hint (.classLink (am_nm y).cls idx (am_R a))
  | .anewarray idx => am_isw hint (.classLink (am_nm y).cls idx RX6)
  | .multianewarray idx dm => decide (dm = 2) && am_isw hint (.classLink (am_nm y).cls idx "[[I")
  | .invokestatic idx => (match Nat.ble 9000 a with
    | false => Nat.ble (a + 1) 129 && ((decide (b = 0) && am_isw hint (.methodLink (am_nm y).cls idx (am_nm a))) || (decide (b = 1) && am_isw hint (.methodLinkNest (am_nm y).cls idx (am_nm a) "LockedToAnothers")))
    | true => (decide (a = 9001) && am_isw hint (.methodLink (am_nm y).cls idx Lib.Math.max.name)) || ((decide (a = 9002) && am_isw hint (.methodLink (am_nm y).cls idx Lib.Math.min.name)) || ((decide (a = 9003) && am_isw hint (.methodLink (am_nm y).cls idx arraycopyName)) || ((decide (a = 9004) && am_isw hint (.methodLink (am_nm y).cls idx ⟨"java/lang/String", "checkIndex", "(II)V"⟩)) || decide (a = 9005)))))
  | .invokespecial idx => (match Nat.ble 9000 a with
    | false => Nat.ble (a + 1) 129 && ((decide (b = 0) && am_isw hint (.methodLink (am_nm y).cls idx (am_nm a))) || (decide (b = 1) && am_isw hint (.methodLinkNest (am_nm y).cls idx (am_nm a) "LockedToAnothers")))
    | true => decide (a = 9999) && am_isw hint (.methodLink (am_nm y).cls idx objectInit))
  | .invokevirtual idx => (match Nat.ble 9000 a with
    | false => Nat.ble (a + 1) 129 && ((decide (b = 2) && (decide (am_nm a = ⟨"java/lang/StringBuilder", "length", "()I"⟩) && am_isw hint (.methodLink (am_nm y).cls idx ⟨"java/lang/AbstractStringBuilder", "length", "()I"⟩))) || (decide (b = 0) && am_isw hint (.methodLink (am_nm y).cls idx (am_nm a))) || (decide (b = 1) && am_isw hint (.methodLinkNest (am_nm y).cls idx (am_nm a) "LockedToAnothers")))
    | true => true)
  | _ => true
noncomputable def am_okB (y pc : Nat) (e : am_I) : Bool := am_dkB y pc e.1 && am_lkB y pc e.1 e.2.1 e.2.2.1 e.2.2.2.1 e.2.2.2.2.2.2
noncomputable def am_okp (y pc : Nat) : Bool := match am_tb y pc with
  | none => true
  | some e => am_okB y pc e
noncomputable def am_okR (y lo n : Nat) : Bool := (List.range n).all (fun j => am_okp y (lo + j))
def am_okM (y : Nat) : Prop := ∀ pc, pc < am_cl y → am_okp y pc = true
theorem am_chk {y lo n : Nat} (h1 : ∀ pc, pc < lo → am_okp y pc = true) (h2 : am_okR y lo n = true) : ∀ pc, pc < lo + n → am_okp y pc = true := fun pc hpc => by
  by_cases h : pc < lo
  · exact h1 pc h
  · have h3 := List.all_eq_true.mp h2 (pc - lo) (List.mem_range.mpr (by omega))
    rwa [show lo + (pc - lo) = pc by omega] at h3
theorem am_ch0 {y : Nat} : ∀ pc, pc < 0 → am_okp y pc = true := fun _ h => absurd h (Nat.not_lt_zero _)
/-- what the tables must say of a method -/
def am_mok (y : Nat) : Prop := Jvm.Cond.code (am_nm y) (am_code y) (am_ml y) (am_ret y) ∈ wt_tbl ∧ (match am_kd y with
    | 0 => Jvm.Cond.static (am_nm y)
    | _ => Jvm.Cond.instanceMethod (am_nm y)) ∈ wt_tbl ∧ (am_kd y = 1 → Jvm.Cond.selects (am_nm y).cls (am_nm y) (am_nm y) ∈ wt_tbl) ∧ (am_kd y = 1 → (am_nm y).cls = am_R (am_ci y) ∧ am_ci y < 9) ∧ (am_kd y = 2 → (am_nm y).name = "<init>" ∧ am_ret y = none) ∧ Jvm.Cond.initialized (am_nm y).cls ∈ wt_tbl ∧ ((am_nm y).cls ≠ "java/lang/invoke/MethodHandle" ∧ (am_nm y).cls ≠ "java/lang/invoke/VarHandle" ∧ (parseMethodDescriptor (am_nm y).desc).map (fun d => d.parameters.length) = some (am_na y)) ∧ am_ml y ≤ 40 ∧ plainName (am_nm y).cls = true ∧ (am_kd y = 3 → (am_nm y).cls = "java/lang/AbstractStringBuilder" ∧ Jvm.Cond.sameMethod (am_nm y).cls (am_nm y).cls (am_nm y).name (am_nm y).desc ∈ wt_tbl ∧ Jvm.Cond.selects "java/lang/StringBuilder" (am_nm y) (am_nm y) ∈ wt_tbl) ∧ (am_kd y = 4 → (am_nm y).cls = "java/lang/AbstractStringBuilder" ∧ (am_nm y).name ≠ "<init>" ∧ Jvm.Cond.sameMethod (am_nm y).cls (am_nm y).cls (am_nm y).name (am_nm y).desc ∈ wt_tbl)

theorem am_ni0 : Jvm.Cond.instantiable (am_R 0) (am_Nf 0) ∈ wt_tbl ∧ Jvm.Cond.initialized (am_R 0) ∈ wt_tbl := ⟨List.mem_of_getElem? (i := 368) (by decide +kernel), List.mem_of_getElem? (i := 31) (by decide +kernel)⟩
theorem am_ni1 : Jvm.Cond.instantiable (am_R 1) (am_Nf 1) ∈ wt_tbl ∧ Jvm.Cond.initialized (am_R 1) ∈ wt_tbl := ⟨List.mem_of_getElem? (i := 113) (by decide +kernel), List.mem_of_getElem? (i := 22) (by decide +kernel)⟩
theorem am_ni2 : Jvm.Cond.instantiable (am_R 2) (am_Nf 2) ∈ wt_tbl ∧ Jvm.Cond.initialized (am_R 2) ∈ wt_tbl := ⟨List.mem_of_getElem? (i := 349) (by decide +kernel), List.mem_of_getElem? (i := 30) (by decide +kernel)⟩
theorem am_ni3 : Jvm.Cond.instantiable (am_R 3) (am_Nf 3) ∈ wt_tbl ∧ Jvm.Cond.initialized (am_R 3) ∈ wt_tbl := ⟨List.mem_of_getElem? (i := 50) (by decide +kernel), List.mem_of_getElem? (i := 21) (by decide +kernel)⟩
theorem am_ni4 : Jvm.Cond.instantiable (am_R 4) (am_Nf 4) ∈ wt_tbl ∧ Jvm.Cond.initialized (am_R 4) ∈ wt_tbl := ⟨List.mem_of_getElem? (i := 119) (by decide +kernel), List.mem_of_getElem? (i := 23) (by decide +kernel)⟩
theorem am_ni5 : Jvm.Cond.instantiable (am_R 5) (am_Nf 5) ∈ wt_tbl ∧ Jvm.Cond.initialized (am_R 5) ∈ wt_tbl := ⟨List.mem_of_getElem? (i := 382) (by decide +kernel), List.mem_of_getElem? (i := 32) (by decide +kernel)⟩
theorem am_ni6 : Jvm.Cond.instantiable (am_R 6) (am_Nf 6) ∈ wt_tbl ∧ Jvm.Cond.initialized (am_R 6) ∈ wt_tbl := ⟨List.mem_of_getElem? (i := 42) (by decide +kernel), List.mem_of_getElem? (i := 20) (by decide +kernel)⟩
theorem am_ni7 : Jvm.Cond.instantiable (am_R 7) (am_Nf 7) ∈ wt_tbl ∧ Jvm.Cond.initialized (am_R 7) ∈ wt_tbl := ⟨List.mem_of_getElem? (i := 662) (by decide +kernel), List.mem_of_getElem? (i := 36) (by decide +kernel)⟩
theorem am_ni8 : Jvm.Cond.instantiable (am_R 8) (am_Nf 8) ∈ wt_tbl ∧ Jvm.Cond.initialized (am_R 8) ∈ wt_tbl := ⟨List.mem_of_getElem? (i := 813) (by decide +kernel), List.mem_of_getElem? (i := 24) (by decide +kernel)⟩
theorem am_ni {a : Nat} (h : a < 9) : Jvm.Cond.instantiable (am_R a) (am_Nf a) ∈ wt_tbl ∧ Jvm.Cond.initialized (am_R a) ∈ wt_tbl := by
  match a, h with
  | 0, _ => exact am_ni0
  | 1, _ => exact am_ni1
  | 2, _ => exact am_ni2
  | 3, _ => exact am_ni3
  | 4, _ => exact am_ni4
  | 5, _ => exact am_ni5
  | 6, _ => exact am_ni6
  | 7, _ => exact am_ni7
  | 8, _ => exact am_ni8
end
section
/-! ===== the tables hold, method by method (kernel): 0 to 15 ===== -/
set_option maxRecDepth 100000 in
theorem am_ok_0_0 : am_okR 0 0 18 = true := by decide +kernel
theorem am_ok_0 : am_okM 0 := am_chk (lo := 0) (n := 18) (am_ch0) am_ok_0_0
theorem am_mk_0 : am_mok 0 := ⟨am_sub_in 1 _ (List.mem_of_getElem? (i := 112) rfl), am_sub_in 1 _ (List.mem_of_getElem? (i := 111) rfl), fun e => absurd e (by decide), fun e => absurd e (by decide), fun _ => ⟨rfl, rfl⟩, am_sub_in 0 _ (List.mem_of_getElem? (i := 12) rfl), ⟨by decide +kernel, by decide +kernel, by decide +kernel⟩, by decide, by decide +kernel, fun e => absurd e (by decide), fun e => absurd e (by decide)⟩
set_option maxRecDepth 100000 in
theorem am_ok_1_0 : am_okR 1 0 57 = true := by decide +kernel
theorem am_ok_1 : am_okM 1 := am_chk (lo := 0) (n := 57) (am_ch0) am_ok_1_0
theorem am_mk_1 : am_mok 1 := ⟨am_sub_in 2 _ (List.mem_of_getElem? (i := 124) rfl), am_sub_in 2 _ (List.mem_of_getElem? (i := 123) rfl), fun e => absurd e (by decide), fun e => absurd e (by decide), fun e => absurd e (by decide), am_sub_in 0 _ (List.mem_of_getElem? (i := 14) rfl), ⟨by decide +kernel, by decide +kernel, by decide +kernel⟩, by decide, by decide +kernel, fun e => absurd e (by decide), fun e => absurd e (by decide)⟩
set_option maxRecDepth 100000 in
theorem am_ok_2_0 : am_okR 2 0 54 = true := by decide +kernel
theorem am_ok_2 : am_okM 2 := am_chk (lo := 0) (n := 54) (am_ch0) am_ok_2_0
theorem am_mk_2 : am_mok 2 := ⟨am_sub_in 2 _ (List.mem_of_getElem? (i := 117) rfl), am_sub_in 2 _ (List.mem_of_getElem? (i := 116) rfl), fun e => absurd e (by decide), fun e => absurd e (by decide), fun e => absurd e (by decide), am_sub_in 0 _ (List.mem_of_getElem? (i := 14) rfl), ⟨by decide +kernel, by decide +kernel, by decide +kernel⟩, by decide, by decide +kernel, fun e => absurd e (by decide), fun e => absurd e (by decide)⟩
set_option maxRecDepth 100000 in
theorem am_ok_3_0 : am_okR 3 0 27 = true := by decide +kernel
theorem am_ok_3 : am_okM 3 := am_chk (lo := 0) (n := 27) (am_ch0) am_ok_3_0
theorem am_mk_3 : am_mok 3 := ⟨am_sub_in 2 _ (List.mem_of_getElem? (i := 114) rfl), am_sub_in 2 _ (List.mem_of_getElem? (i := 113) rfl), fun e => absurd e (by decide), fun e => absurd e (by decide), fun e => absurd e (by decide), am_sub_in 0 _ (List.mem_of_getElem? (i := 14) rfl), ⟨by decide +kernel, by decide +kernel, by decide +kernel⟩, by decide, by decide +kernel, fun e => absurd e (by decide), fun e => absurd e (by decide)⟩
set_option maxRecDepth 100000 in
theorem am_ok_4_0 : am_okR 4 0 100 = true := by decide +kernel
set_option maxRecDepth 100000 in
theorem am_ok_4_1 : am_okR 4 100 28 = true := by decide +kernel
theorem am_ok_4 : am_okM 4 := am_chk (lo := 100) (n := 28) (am_chk (lo := 0) (n := 100) (am_ch0) am_ok_4_0) am_ok_4_1
theorem am_mk_4 : am_mok 4 := ⟨am_sub_in 0 _ (List.mem_of_getElem? (i := 97) rfl), am_sub_in 0 _ (List.mem_of_getElem? (i := 96) rfl), fun e => absurd e (by decide), fun e => absurd e (by decide), fun _ => ⟨rfl, rfl⟩, am_sub_in 0 _ (List.mem_of_getElem? (i := 3) rfl), ⟨by decide +kernel, by decide +kernel, by decide +kernel⟩, by decide, by decide +kernel, fun e => absurd e (by decide), fun e => absurd e (by decide)⟩
set_option maxRecDepth 100000 in
theorem am_ok_5_0 : am_okR 5 0 51 = true := by decide +kernel
theorem am_ok_5 : am_okM 5 := am_chk (lo := 0) (n := 51) (am_ch0) am_ok_5_0
theorem am_mk_5 : am_mok 5 := ⟨am_sub_in 3 _ (List.mem_of_getElem? (i := 146) rfl), am_sub_in 3 _ (List.mem_of_getElem? (i := 144) rfl), fun _ => am_sub_in 3 _ (List.mem_of_getElem? (i := 145) rfl), fun _ => ⟨rfl, by decide⟩, fun e => absurd e (by decide), am_sub_in 0 _ (List.mem_of_getElem? (i := 3) rfl), ⟨by decide +kernel, by decide +kernel, by decide +kernel⟩, by decide, by decide +kernel, fun e => absurd e (by decide), fun e => absurd e (by decide)⟩
set_option maxRecDepth 100000 in
theorem am_ok_6_0 : am_okR 6 0 100 = true := by decide +kernel
set_option maxRecDepth 100000 in
theorem am_ok_6_1 : am_okR 6 100 16 = true := by decide +kernel
theorem am_ok_6 : am_okM 6 := am_chk (lo := 100) (n := 16) (am_chk (lo := 0) (n := 100) (am_ch0) am_ok_6_0) am_ok_6_1
theorem am_mk_6 : am_mok 6 := ⟨am_sub_in 2 _ (List.mem_of_getElem? (i := 7) rfl), am_sub_in 2 _ (List.mem_of_getElem? (i := 5) rfl), fun _ => am_sub_in 2 _ (List.mem_of_getElem? (i := 6) rfl), fun _ => ⟨rfl, by decide⟩, fun e => absurd e (by decide), am_sub_in 0 _ (List.mem_of_getElem? (i := 3) rfl), ⟨by decide +kernel, by decide +kernel, by decide +kernel⟩, by decide, by decide +kernel, fun e => absurd e (by decide), fun e => absurd e (by decide)⟩
set_option maxRecDepth 100000 in
theorem am_ok_7_0 : am_okR 7 0 18 = true := by decide +kernel
theorem am_ok_7 : am_okM 7 := am_chk (lo := 0) (n := 18) (am_ch0) am_ok_7_0
theorem am_mk_7 : am_mok 7 := ⟨am_sub_in 2 _ (List.mem_of_getElem? (i := 3) rfl), am_sub_in 2 _ (List.mem_of_getElem? (i := 1) rfl), fun _ => am_sub_in 2 _ (List.mem_of_getElem? (i := 2) rfl), fun _ => ⟨rfl, by decide⟩, fun e => absurd e (by decide), am_sub_in 0 _ (List.mem_of_getElem? (i := 3) rfl), ⟨by decide +kernel, by decide +kernel, by decide +kernel⟩, by decide, by decide +kernel, fun e => absurd e (by decide), fun e => absurd e (by decide)⟩
set_option maxRecDepth 100000 in
theorem am_ok_8_0 : am_okR 8 0 100 = true := by decide +kernel
set_option maxRecDepth 100000 in
theorem am_ok_8_1 : am_okR 8 100 98 = true := by decide +kernel
theorem am_ok_8 : am_okM 8 := am_chk (lo := 100) (n := 98) (am_chk (lo := 0) (n := 100) (am_ch0) am_ok_8_0) am_ok_8_1
theorem am_mk_8 : am_mok 8 := ⟨am_sub_in 2 _ (List.mem_of_getElem? (i := 12) rfl), am_sub_in 2 _ (List.mem_of_getElem? (i := 11) rfl), fun _ => am_sub_in 4 _ (List.mem_of_getElem? (i := 10) rfl), fun _ => ⟨rfl, by decide⟩, fun e => absurd e (by decide), am_sub_in 0 _ (List.mem_of_getElem? (i := 3) rfl), ⟨by decide +kernel, by decide +kernel, by decide +kernel⟩, by decide, by decide +kernel, fun e => absurd e (by decide), fun e => absurd e (by decide)⟩
set_option maxRecDepth 100000 in
theorem am_ok_9_0 : am_okR 9 0 100 = true := by decide +kernel
set_option maxRecDepth 100000 in
theorem am_ok_9_1 : am_okR 9 100 14 = true := by decide +kernel
theorem am_ok_9 : am_okM 9 := am_chk (lo := 100) (n := 14) (am_chk (lo := 0) (n := 100) (am_ch0) am_ok_9_0) am_ok_9_1
theorem am_mk_9 : am_mok 9 := ⟨am_sub_in 2 _ (List.mem_of_getElem? (i := 18) rfl), am_sub_in 2 _ (List.mem_of_getElem? (i := 17) rfl), fun e => absurd e (by decide), fun e => absurd e (by decide), fun e => absurd e (by decide), am_sub_in 0 _ (List.mem_of_getElem? (i := 3) rfl), ⟨by decide +kernel, by decide +kernel, by decide +kernel⟩, by decide, by decide +kernel, fun e => absurd e (by decide), fun e => absurd e (by decide)⟩
set_option maxRecDepth 100000 in
theorem am_ok_10_0 : am_okR 10 0 10 = true := by decide +kernel
theorem am_ok_10 : am_okM 10 := am_chk (lo := 0) (n := 10) (am_ch0) am_ok_10_0
theorem am_mk_10 : am_mok 10 := ⟨am_sub_in 2 _ (List.mem_of_getElem? (i := 15) rfl), am_sub_in 2 _ (List.mem_of_getElem? (i := 14) rfl), fun e => absurd e (by decide), fun e => absurd e (by decide), fun e => absurd e (by decide), am_sub_in 0 _ (List.mem_of_getElem? (i := 3) rfl), ⟨by decide +kernel, by decide +kernel, by decide +kernel⟩, by decide, by decide +kernel, fun e => absurd e (by decide), fun e => absurd e (by decide)⟩
set_option maxRecDepth 100000 in
theorem am_ok_11_0 : am_okR 11 0 36 = true := by decide +kernel
theorem am_ok_11 : am_okM 11 := am_chk (lo := 0) (n := 36) (am_ch0) am_ok_11_0
theorem am_mk_11 : am_mok 11 := ⟨am_sub_in 1 _ (List.mem_of_getElem? (i := 93) rfl), am_sub_in 1 _ (List.mem_of_getElem? (i := 92) rfl), fun e => absurd e (by decide), fun e => absurd e (by decide), fun _ => ⟨rfl, rfl⟩, am_sub_in 0 _ (List.mem_of_getElem? (i := 11) rfl), ⟨by decide +kernel, by decide +kernel, by decide +kernel⟩, by decide, by decide +kernel, fun e => absurd e (by decide), fun e => absurd e (by decide)⟩
set_option maxRecDepth 100000 in
theorem am_ok_12_0 : am_okR 12 0 100 = true := by decide +kernel
set_option maxRecDepth 100000 in
theorem am_ok_12_1 : am_okR 12 100 43 = true := by decide +kernel
theorem am_ok_12 : am_okM 12 := am_chk (lo := 100) (n := 43) (am_chk (lo := 0) (n := 100) (am_ch0) am_ok_12_0) am_ok_12_1
theorem am_mk_12 : am_mok 12 := ⟨am_sub_in 2 _ (List.mem_of_getElem? (i := 54) rfl), am_sub_in 2 _ (List.mem_of_getElem? (i := 53) rfl), fun _ => am_sub_in 4 _ (List.mem_of_getElem? (i := 11) rfl), fun _ => ⟨rfl, by decide⟩, fun e => absurd e (by decide), am_sub_in 0 _ (List.mem_of_getElem? (i := 11) rfl), ⟨by decide +kernel, by decide +kernel, by decide +kernel⟩, by decide, by decide +kernel, fun e => absurd e (by decide), fun e => absurd e (by decide)⟩
set_option maxRecDepth 100000 in
theorem am_ok_13_0 : am_okR 13 0 80 = true := by decide +kernel
theorem am_ok_13 : am_okM 13 := am_chk (lo := 0) (n := 80) (am_ch0) am_ok_13_0
theorem am_mk_13 : am_mok 13 := ⟨am_sub_in 2 _ (List.mem_of_getElem? (i := 50) rfl), am_sub_in 2 _ (List.mem_of_getElem? (i := 48) rfl), fun _ => am_sub_in 2 _ (List.mem_of_getElem? (i := 49) rfl), fun _ => ⟨rfl, by decide⟩, fun e => absurd e (by decide), am_sub_in 0 _ (List.mem_of_getElem? (i := 11) rfl), ⟨by decide +kernel, by decide +kernel, by decide +kernel⟩, by decide, by decide +kernel, fun e => absurd e (by decide), fun e => absurd e (by decide)⟩
set_option maxRecDepth 100000 in
theorem am_ok_14_0 : am_okR 14 0 90 = true := by decide +kernel
theorem am_ok_14 : am_okM 14 := am_chk (lo := 0) (n := 90) (am_ch0) am_ok_14_0
theorem am_mk_14 : am_mok 14 := ⟨am_sub_in 2 _ (List.mem_of_getElem? (i := 61) rfl), am_sub_in 2 _ (List.mem_of_getElem? (i := 59) rfl), fun _ => am_sub_in 2 _ (List.mem_of_getElem? (i := 60) rfl), fun _ => ⟨rfl, by decide⟩, fun e => absurd e (by decide), am_sub_in 0 _ (List.mem_of_getElem? (i := 11) rfl), ⟨by decide +kernel, by decide +kernel, by decide +kernel⟩, by decide, by decide +kernel, fun e => absurd e (by decide), fun e => absurd e (by decide)⟩
set_option maxRecDepth 100000 in
theorem am_ok_15_0 : am_okR 15 0 86 = true := by decide +kernel
theorem am_ok_15 : am_okM 15 := am_chk (lo := 0) (n := 86) (am_ch0) am_ok_15_0
theorem am_mk_15 : am_mok 15 := ⟨am_sub_in 0 _ (List.mem_of_getElem? (i := 34) rfl), am_sub_in 0 _ (List.mem_of_getElem? (i := 33) rfl), fun e => absurd e (by decide), fun e => absurd e (by decide), fun _ => ⟨rfl, rfl⟩, am_sub_in 0 _ (List.mem_of_getElem? (i := 2) rfl), ⟨by decide +kernel, by decide +kernel, by decide +kernel⟩, by decide, by decide +kernel, fun e => absurd e (by decide), fun e => absurd e (by decide)⟩
end
section
/-! ===== the tables hold, method by method (kernel): 16 to 40 ===== -/
set_option maxRecDepth 100000 in
theorem am_ok_16_0 : am_okR 16 0 18 = true := by decide +kernel
theorem am_ok_16 : am_okM 16 := am_chk (lo := 0) (n := 18) (am_ch0) am_ok_16_0
theorem am_mk_16 : am_mok 16 := ⟨am_sub_in 1 _ (List.mem_of_getElem? (i := 180) rfl), am_sub_in 1 _ (List.mem_of_getElem? (i := 178) rfl), fun _ => am_sub_in 1 _ (List.mem_of_getElem? (i := 179) rfl), fun _ => ⟨rfl, by decide⟩, fun e => absurd e (by decide), am_sub_in 0 _ (List.mem_of_getElem? (i := 2) rfl), ⟨by decide +kernel, by decide +kernel, by decide +kernel⟩, by decide, by decide +kernel, fun e => absurd e (by decide), fun e => absurd e (by decide)⟩
set_option maxRecDepth 100000 in
theorem am_ok_17_0 : am_okR 17 0 18 = true := by decide +kernel
theorem am_ok_17 : am_okM 17 := am_chk (lo := 0) (n := 18) (am_ch0) am_ok_17_0
theorem am_mk_17 : am_mok 17 := ⟨am_sub_in 1 _ (List.mem_of_getElem? (i := 195) rfl), am_sub_in 1 _ (List.mem_of_getElem? (i := 193) rfl), fun _ => am_sub_in 1 _ (List.mem_of_getElem? (i := 194) rfl), fun _ => ⟨rfl, by decide⟩, fun e => absurd e (by decide), am_sub_in 0 _ (List.mem_of_getElem? (i := 2) rfl), ⟨by decide +kernel, by decide +kernel, by decide +kernel⟩, by decide, by decide +kernel, fun e => absurd e (by decide), fun e => absurd e (by decide)⟩
set_option maxRecDepth 100000 in
theorem am_ok_18_0 : am_okR 18 0 9 = true := by decide +kernel
theorem am_ok_18 : am_okM 18 := am_chk (lo := 0) (n := 9) (am_ch0) am_ok_18_0
theorem am_mk_18 : am_mok 18 := ⟨am_sub_in 1 _ (List.mem_of_getElem? (i := 184) rfl), am_sub_in 1 _ (List.mem_of_getElem? (i := 182) rfl), fun _ => am_sub_in 1 _ (List.mem_of_getElem? (i := 183) rfl), fun _ => ⟨rfl, by decide⟩, fun e => absurd e (by decide), am_sub_in 0 _ (List.mem_of_getElem? (i := 2) rfl), ⟨by decide +kernel, by decide +kernel, by decide +kernel⟩, by decide, by decide +kernel, fun e => absurd e (by decide), fun e => absurd e (by decide)⟩
set_option maxRecDepth 100000 in
theorem am_ok_19_0 : am_okR 19 0 33 = true := by decide +kernel
theorem am_ok_19 : am_okM 19 := am_chk (lo := 0) (n := 33) (am_ch0) am_ok_19_0
theorem am_mk_19 : am_mok 19 := ⟨am_sub_in 1 _ (List.mem_of_getElem? (i := 199) rfl), am_sub_in 1 _ (List.mem_of_getElem? (i := 197) rfl), fun _ => am_sub_in 1 _ (List.mem_of_getElem? (i := 198) rfl), fun _ => ⟨rfl, by decide⟩, fun e => absurd e (by decide), am_sub_in 0 _ (List.mem_of_getElem? (i := 2) rfl), ⟨by decide +kernel, by decide +kernel, by decide +kernel⟩, by decide, by decide +kernel, fun e => absurd e (by decide), fun e => absurd e (by decide)⟩
set_option maxRecDepth 100000 in
theorem am_ok_20_0 : am_okR 20 0 25 = true := by decide +kernel
theorem am_ok_20 : am_okM 20 := am_chk (lo := 0) (n := 25) (am_ch0) am_ok_20_0
theorem am_mk_20 : am_mok 20 := ⟨am_sub_in 2 _ (List.mem_of_getElem? (i := 147) rfl), am_sub_in 2 _ (List.mem_of_getElem? (i := 145) rfl), fun _ => am_sub_in 2 _ (List.mem_of_getElem? (i := 146) rfl), fun _ => ⟨rfl, by decide⟩, fun e => absurd e (by decide), am_sub_in 0 _ (List.mem_of_getElem? (i := 2) rfl), ⟨by decide +kernel, by decide +kernel, by decide +kernel⟩, by decide, by decide +kernel, fun e => absurd e (by decide), fun e => absurd e (by decide)⟩
set_option maxRecDepth 100000 in
theorem am_ok_21_0 : am_okR 21 0 9 = true := by decide +kernel
theorem am_ok_21 : am_okM 21 := am_chk (lo := 0) (n := 9) (am_ch0) am_ok_21_0
theorem am_mk_21 : am_mok 21 := ⟨am_sub_in 1 _ (List.mem_of_getElem? (i := 224) rfl), am_sub_in 1 _ (List.mem_of_getElem? (i := 222) rfl), fun _ => am_sub_in 1 _ (List.mem_of_getElem? (i := 223) rfl), fun _ => ⟨rfl, by decide⟩, fun e => absurd e (by decide), am_sub_in 0 _ (List.mem_of_getElem? (i := 2) rfl), ⟨by decide +kernel, by decide +kernel, by decide +kernel⟩, by decide, by decide +kernel, fun e => absurd e (by decide), fun e => absurd e (by decide)⟩
set_option maxRecDepth 100000 in
theorem am_ok_22_0 : am_okR 22 0 40 = true := by decide +kernel
theorem am_ok_22 : am_okM 22 := am_chk (lo := 0) (n := 40) (am_ch0) am_ok_22_0
theorem am_mk_22 : am_mok 22 := ⟨am_sub_in 2 _ (List.mem_of_getElem? (i := 107) rfl), am_sub_in 2 _ (List.mem_of_getElem? (i := 105) rfl), fun _ => am_sub_in 2 _ (List.mem_of_getElem? (i := 106) rfl), fun _ => ⟨rfl, by decide⟩, fun e => absurd e (by decide), am_sub_in 0 _ (List.mem_of_getElem? (i := 2) rfl), ⟨by decide +kernel, by decide +kernel, by decide +kernel⟩, by decide, by decide +kernel, fun e => absurd e (by decide), fun e => absurd e (by decide)⟩
set_option maxRecDepth 100000 in
theorem am_ok_23_0 : am_okR 23 0 67 = true := by decide +kernel
theorem am_ok_23 : am_okM 23 := am_chk (lo := 0) (n := 67) (am_ch0) am_ok_23_0
theorem am_mk_23 : am_mok 23 := ⟨am_sub_in 2 _ (List.mem_of_getElem? (i := 111) rfl), am_sub_in 2 _ (List.mem_of_getElem? (i := 109) rfl), fun _ => am_sub_in 2 _ (List.mem_of_getElem? (i := 110) rfl), fun _ => ⟨rfl, by decide⟩, fun e => absurd e (by decide), am_sub_in 0 _ (List.mem_of_getElem? (i := 2) rfl), ⟨by decide +kernel, by decide +kernel, by decide +kernel⟩, by decide, by decide +kernel, fun e => absurd e (by decide), fun e => absurd e (by decide)⟩
set_option maxRecDepth 100000 in
theorem am_ok_24_0 : am_okR 24 0 40 = true := by decide +kernel
theorem am_ok_24 : am_okM 24 := am_chk (lo := 0) (n := 40) (am_ch0) am_ok_24_0
theorem am_mk_24 : am_mok 24 := ⟨am_sub_in 2 _ (List.mem_of_getElem? (i := 151) rfl), am_sub_in 2 _ (List.mem_of_getElem? (i := 149) rfl), fun _ => am_sub_in 2 _ (List.mem_of_getElem? (i := 150) rfl), fun _ => ⟨rfl, by decide⟩, fun e => absurd e (by decide), am_sub_in 0 _ (List.mem_of_getElem? (i := 2) rfl), ⟨by decide +kernel, by decide +kernel, by decide +kernel⟩, by decide, by decide +kernel, fun e => absurd e (by decide), fun e => absurd e (by decide)⟩
set_option maxRecDepth 100000 in
theorem am_ok_25_0 : am_okR 25 0 13 = true := by decide +kernel
theorem am_ok_25 : am_okM 25 := am_chk (lo := 0) (n := 13) (am_ch0) am_ok_25_0
theorem am_mk_25 : am_mok 25 := ⟨am_sub_in 2 _ (List.mem_of_getElem? (i := 155) rfl), am_sub_in 2 _ (List.mem_of_getElem? (i := 153) rfl), fun _ => am_sub_in 2 _ (List.mem_of_getElem? (i := 154) rfl), fun _ => ⟨rfl, by decide⟩, fun e => absurd e (by decide), am_sub_in 0 _ (List.mem_of_getElem? (i := 2) rfl), ⟨by decide +kernel, by decide +kernel, by decide +kernel⟩, by decide, by decide +kernel, fun e => absurd e (by decide), fun e => absurd e (by decide)⟩
set_option maxRecDepth 100000 in
theorem am_ok_26_0 : am_okR 26 0 69 = true := by decide +kernel
theorem am_ok_26 : am_okM 26 := am_chk (lo := 0) (n := 69) (am_ch0) am_ok_26_0
theorem am_mk_26 : am_mok 26 := ⟨am_sub_in 2 _ (List.mem_of_getElem? (i := 121) rfl), am_sub_in 2 _ (List.mem_of_getElem? (i := 120) rfl), fun _ => am_sub_in 4 _ (List.mem_of_getElem? (i := 14) rfl), fun _ => ⟨rfl, by decide⟩, fun e => absurd e (by decide), am_sub_in 0 _ (List.mem_of_getElem? (i := 2) rfl), ⟨by decide +kernel, by decide +kernel, by decide +kernel⟩, by decide, by decide +kernel, fun e => absurd e (by decide), fun e => absurd e (by decide)⟩
set_option maxRecDepth 100000 in
theorem am_ok_27_0 : am_okR 27 0 59 = true := by decide +kernel
theorem am_ok_27 : am_okM 27 := am_chk (lo := 0) (n := 59) (am_ch0) am_ok_27_0
theorem am_mk_27 : am_mok 27 := ⟨am_sub_in 1 _ (List.mem_of_getElem? (i := 211) rfl), am_sub_in 1 _ (List.mem_of_getElem? (i := 209) rfl), fun _ => am_sub_in 1 _ (List.mem_of_getElem? (i := 210) rfl), fun _ => ⟨rfl, by decide⟩, fun e => absurd e (by decide), am_sub_in 0 _ (List.mem_of_getElem? (i := 2) rfl), ⟨by decide +kernel, by decide +kernel, by decide +kernel⟩, by decide, by decide +kernel, fun e => absurd e (by decide), fun e => absurd e (by decide)⟩
set_option maxRecDepth 100000 in
theorem am_ok_28_0 : am_okR 28 0 49 = true := by decide +kernel
theorem am_ok_28 : am_okM 28 := am_chk (lo := 0) (n := 49) (am_ch0) am_ok_28_0
theorem am_mk_28 : am_mok 28 := ⟨am_sub_in 1 _ (List.mem_of_getElem? (i := 207) rfl), am_sub_in 1 _ (List.mem_of_getElem? (i := 205) rfl), fun _ => am_sub_in 1 _ (List.mem_of_getElem? (i := 206) rfl), fun _ => ⟨rfl, by decide⟩, fun e => absurd e (by decide), am_sub_in 0 _ (List.mem_of_getElem? (i := 2) rfl), ⟨by decide +kernel, by decide +kernel, by decide +kernel⟩, by decide, by decide +kernel, fun e => absurd e (by decide), fun e => absurd e (by decide)⟩
set_option maxRecDepth 100000 in
theorem am_ok_29_0 : am_okR 29 0 53 = true := by decide +kernel
theorem am_ok_29 : am_okM 29 := am_chk (lo := 0) (n := 53) (am_ch0) am_ok_29_0
theorem am_mk_29 : am_mok 29 := ⟨am_sub_in 2 _ (List.mem_of_getElem? (i := 28) rfl), am_sub_in 2 _ (List.mem_of_getElem? (i := 26) rfl), fun _ => am_sub_in 2 _ (List.mem_of_getElem? (i := 27) rfl), fun _ => ⟨rfl, by decide⟩, fun e => absurd e (by decide), am_sub_in 0 _ (List.mem_of_getElem? (i := 2) rfl), ⟨by decide +kernel, by decide +kernel, by decide +kernel⟩, by decide, by decide +kernel, fun e => absurd e (by decide), fun e => absurd e (by decide)⟩
set_option maxRecDepth 100000 in
theorem am_ok_30_0 : am_okR 30 0 100 = true := by decide +kernel
set_option maxRecDepth 100000 in
theorem am_ok_30_1 : am_okR 30 100 16 = true := by decide +kernel
theorem am_ok_30 : am_okM 30 := am_chk (lo := 100) (n := 16) (am_chk (lo := 0) (n := 100) (am_ch0) am_ok_30_0) am_ok_30_1
theorem am_mk_30 : am_mok 30 := ⟨am_sub_in 1 _ (List.mem_of_getElem? (i := 220) rfl), am_sub_in 1 _ (List.mem_of_getElem? (i := 218) rfl), fun _ => am_sub_in 1 _ (List.mem_of_getElem? (i := 219) rfl), fun _ => ⟨rfl, by decide⟩, fun e => absurd e (by decide), am_sub_in 0 _ (List.mem_of_getElem? (i := 2) rfl), ⟨by decide +kernel, by decide +kernel, by decide +kernel⟩, by decide, by decide +kernel, fun e => absurd e (by decide), fun e => absurd e (by decide)⟩
set_option maxRecDepth 100000 in
theorem am_ok_31_0 : am_okR 31 0 47 = true := by decide +kernel
theorem am_ok_31 : am_okM 31 := am_chk (lo := 0) (n := 47) (am_ch0) am_ok_31_0
theorem am_mk_31 : am_mok 31 := ⟨am_sub_in 2 _ (List.mem_of_getElem? (i := 38) rfl), am_sub_in 2 _ (List.mem_of_getElem? (i := 36) rfl), fun _ => am_sub_in 2 _ (List.mem_of_getElem? (i := 37) rfl), fun _ => ⟨rfl, by decide⟩, fun e => absurd e (by decide), am_sub_in 0 _ (List.mem_of_getElem? (i := 2) rfl), ⟨by decide +kernel, by decide +kernel, by decide +kernel⟩, by decide, by decide +kernel, fun e => absurd e (by decide), fun e => absurd e (by decide)⟩
set_option maxRecDepth 100000 in
theorem am_ok_32_0 : am_okR 32 0 56 = true := by decide +kernel
theorem am_ok_32 : am_okM 32 := am_chk (lo := 0) (n := 56) (am_ch0) am_ok_32_0
theorem am_mk_32 : am_mok 32 := ⟨am_sub_in 0 _ (List.mem_of_getElem? (i := 103) rfl), am_sub_in 0 _ (List.mem_of_getElem? (i := 102) rfl), fun e => absurd e (by decide), fun e => absurd e (by decide), fun _ => ⟨rfl, rfl⟩, am_sub_in 0 _ (List.mem_of_getElem? (i := 4) rfl), ⟨by decide +kernel, by decide +kernel, by decide +kernel⟩, by decide, by decide +kernel, fun e => absurd e (by decide), fun e => absurd e (by decide)⟩
set_option maxRecDepth 100000 in
theorem am_ok_33_0 : am_okR 33 0 31 = true := by decide +kernel
theorem am_ok_33 : am_okM 33 := am_chk (lo := 0) (n := 31) (am_ch0) am_ok_33_0
theorem am_mk_33 : am_mok 33 := ⟨am_sub_in 0 _ (List.mem_of_getElem? (i := 189) rfl), am_sub_in 0 _ (List.mem_of_getElem? (i := 187) rfl), fun _ => am_sub_in 0 _ (List.mem_of_getElem? (i := 188) rfl), fun _ => ⟨rfl, by decide⟩, fun e => absurd e (by decide), am_sub_in 0 _ (List.mem_of_getElem? (i := 4) rfl), ⟨by decide +kernel, by decide +kernel, by decide +kernel⟩, by decide, by decide +kernel, fun e => absurd e (by decide), fun e => absurd e (by decide)⟩
set_option maxRecDepth 100000 in
theorem am_ok_34_0 : am_okR 34 0 97 = true := by decide +kernel
theorem am_ok_34 : am_okM 34 := am_chk (lo := 0) (n := 97) (am_ch0) am_ok_34_0
theorem am_mk_34 : am_mok 34 := ⟨am_sub_in 0 _ (List.mem_of_getElem? (i := 193) rfl), am_sub_in 0 _ (List.mem_of_getElem? (i := 191) rfl), fun _ => am_sub_in 0 _ (List.mem_of_getElem? (i := 192) rfl), fun _ => ⟨rfl, by decide⟩, fun e => absurd e (by decide), am_sub_in 0 _ (List.mem_of_getElem? (i := 4) rfl), ⟨by decide +kernel, by decide +kernel, by decide +kernel⟩, by decide, by decide +kernel, fun e => absurd e (by decide), fun e => absurd e (by decide)⟩
set_option maxRecDepth 100000 in
theorem am_ok_35_0 : am_okR 35 0 13 = true := by decide +kernel
theorem am_ok_35 : am_okM 35 := am_chk (lo := 0) (n := 13) (am_ch0) am_ok_35_0
theorem am_mk_35 : am_mok 35 := ⟨am_sub_in 1 _ (List.mem_of_getElem? (i := 43) rfl), am_sub_in 1 _ (List.mem_of_getElem? (i := 42) rfl), fun _ => am_sub_in 4 _ (List.mem_of_getElem? (i := 5) rfl), fun _ => ⟨rfl, by decide⟩, fun e => absurd e (by decide), am_sub_in 0 _ (List.mem_of_getElem? (i := 4) rfl), ⟨by decide +kernel, by decide +kernel, by decide +kernel⟩, by decide, by decide +kernel, fun e => absurd e (by decide), fun e => absurd e (by decide)⟩
set_option maxRecDepth 100000 in
theorem am_ok_36_0 : am_okR 36 0 20 = true := by decide +kernel
theorem am_ok_36 : am_okM 36 := am_chk (lo := 0) (n := 20) (am_ch0) am_ok_36_0
theorem am_mk_36 : am_mok 36 := ⟨am_sub_in 1 _ (List.mem_of_getElem? (i := 39) rfl), am_sub_in 1 _ (List.mem_of_getElem? (i := 38) rfl), fun _ => am_sub_in 4 _ (List.mem_of_getElem? (i := 4) rfl), fun _ => ⟨rfl, by decide⟩, fun e => absurd e (by decide), am_sub_in 0 _ (List.mem_of_getElem? (i := 4) rfl), ⟨by decide +kernel, by decide +kernel, by decide +kernel⟩, by decide, by decide +kernel, fun e => absurd e (by decide), fun e => absurd e (by decide)⟩
set_option maxRecDepth 100000 in
theorem am_ok_37_0 : am_okR 37 0 40 = true := by decide +kernel
theorem am_ok_37 : am_okM 37 := am_chk (lo := 0) (n := 40) (am_ch0) am_ok_37_0
theorem am_mk_37 : am_mok 37 := ⟨am_sub_in 1 _ (List.mem_of_getElem? (i := 55) rfl), am_sub_in 1 _ (List.mem_of_getElem? (i := 54) rfl), fun _ => am_sub_in 4 _ (List.mem_of_getElem? (i := 8) rfl), fun _ => ⟨rfl, by decide⟩, fun e => absurd e (by decide), am_sub_in 0 _ (List.mem_of_getElem? (i := 4) rfl), ⟨by decide +kernel, by decide +kernel, by decide +kernel⟩, by decide, by decide +kernel, fun e => absurd e (by decide), fun e => absurd e (by decide)⟩
set_option maxRecDepth 100000 in
theorem am_ok_38_0 : am_okR 38 0 100 = true := by decide +kernel
set_option maxRecDepth 100000 in
theorem am_ok_38_1 : am_okR 38 100 28 = true := by decide +kernel
theorem am_ok_38 : am_okM 38 := am_chk (lo := 100) (n := 28) (am_chk (lo := 0) (n := 100) (am_ch0) am_ok_38_0) am_ok_38_1
theorem am_mk_38 : am_mok 38 := ⟨am_sub_in 1 _ (List.mem_of_getElem? (i := 47) rfl), am_sub_in 1 _ (List.mem_of_getElem? (i := 46) rfl), fun _ => am_sub_in 4 _ (List.mem_of_getElem? (i := 6) rfl), fun _ => ⟨rfl, by decide⟩, fun e => absurd e (by decide), am_sub_in 0 _ (List.mem_of_getElem? (i := 4) rfl), ⟨by decide +kernel, by decide +kernel, by decide +kernel⟩, by decide, by decide +kernel, fun e => absurd e (by decide), fun e => absurd e (by decide)⟩
set_option maxRecDepth 100000 in
theorem am_ok_39_0 : am_okR 39 0 100 = true := by decide +kernel
set_option maxRecDepth 100000 in
theorem am_ok_39_1 : am_okR 39 100 42 = true := by decide +kernel
theorem am_ok_39 : am_okM 39 := am_chk (lo := 100) (n := 42) (am_chk (lo := 0) (n := 100) (am_ch0) am_ok_39_0) am_ok_39_1
theorem am_mk_39 : am_mok 39 := ⟨am_sub_in 1 _ (List.mem_of_getElem? (i := 59) rfl), am_sub_in 1 _ (List.mem_of_getElem? (i := 58) rfl), fun _ => am_sub_in 4 _ (List.mem_of_getElem? (i := 9) rfl), fun _ => ⟨rfl, by decide⟩, fun e => absurd e (by decide), am_sub_in 0 _ (List.mem_of_getElem? (i := 4) rfl), ⟨by decide +kernel, by decide +kernel, by decide +kernel⟩, by decide, by decide +kernel, fun e => absurd e (by decide), fun e => absurd e (by decide)⟩
set_option maxRecDepth 100000 in
theorem am_ok_40_0 : am_okR 40 0 100 = true := by decide +kernel
set_option maxRecDepth 100000 in
theorem am_ok_40_1 : am_okR 40 100 42 = true := by decide +kernel
theorem am_ok_40 : am_okM 40 := am_chk (lo := 100) (n := 42) (am_chk (lo := 0) (n := 100) (am_ch0) am_ok_40_0) am_ok_40_1
theorem am_mk_40 : am_mok 40 := ⟨am_sub_in 1 _ (List.mem_of_getElem? (i := 51) rfl), am_sub_in 1 _ (List.mem_of_getElem? (i := 50) rfl), fun _ => am_sub_in 4 _ (List.mem_of_getElem? (i := 7) rfl), fun _ => ⟨rfl, by decide⟩, fun e => absurd e (by decide), am_sub_in 0 _ (List.mem_of_getElem? (i := 4) rfl), ⟨by decide +kernel, by decide +kernel, by decide +kernel⟩, by decide, by decide +kernel, fun e => absurd e (by decide), fun e => absurd e (by decide)⟩
end
section
/-! ===== the tables hold, method by method (kernel): 41 to 54 ===== -/
set_option maxRecDepth 100000 in
theorem am_ok_41_0 : am_okR 41 0 100 = true := by decide +kernel
set_option maxRecDepth 100000 in
theorem am_ok_41_1 : am_okR 41 100 100 = true := by decide +kernel
set_option maxRecDepth 100000 in
theorem am_ok_41_2 : am_okR 41 200 5 = true := by decide +kernel
theorem am_ok_41 : am_okM 41 := am_chk (lo := 200) (n := 5) (am_chk (lo := 100) (n := 100) (am_chk (lo := 0) (n := 100) (am_ch0) am_ok_41_0) am_ok_41_1) am_ok_41_2
theorem am_mk_41 : am_mok 41 := ⟨am_sub_in 0 _ (List.mem_of_getElem? (i := 197) rfl), am_sub_in 0 _ (List.mem_of_getElem? (i := 196) rfl), fun _ => am_sub_in 4 _ (List.mem_of_getElem? (i := 0) rfl), fun _ => ⟨rfl, by decide⟩, fun e => absurd e (by decide), am_sub_in 0 _ (List.mem_of_getElem? (i := 4) rfl), ⟨by decide +kernel, by decide +kernel, by decide +kernel⟩, by decide, by decide +kernel, fun e => absurd e (by decide), fun e => absurd e (by decide)⟩
set_option maxRecDepth 100000 in
theorem am_ok_42_0 : am_okR 42 0 82 = true := by decide +kernel
theorem am_ok_42 : am_okM 42 := am_chk (lo := 0) (n := 82) (am_ch0) am_ok_42_0
theorem am_mk_42 : am_mok 42 := ⟨am_sub_in 0 _ (List.mem_of_getElem? (i := 204) rfl), am_sub_in 0 _ (List.mem_of_getElem? (i := 203) rfl), fun _ => am_sub_in 4 _ (List.mem_of_getElem? (i := 1) rfl), fun _ => ⟨rfl, by decide⟩, fun e => absurd e (by decide), am_sub_in 0 _ (List.mem_of_getElem? (i := 4) rfl), ⟨by decide +kernel, by decide +kernel, by decide +kernel⟩, by decide, by decide +kernel, fun e => absurd e (by decide), fun e => absurd e (by decide)⟩
set_option maxRecDepth 100000 in
theorem am_ok_43_0 : am_okR 43 0 95 = true := by decide +kernel
theorem am_ok_43 : am_okM 43 := am_chk (lo := 0) (n := 95) (am_ch0) am_ok_43_0
theorem am_mk_43 : am_mok 43 := ⟨am_sub_in 0 _ (List.mem_of_getElem? (i := 215) rfl), am_sub_in 0 _ (List.mem_of_getElem? (i := 214) rfl), fun _ => am_sub_in 4 _ (List.mem_of_getElem? (i := 3) rfl), fun _ => ⟨rfl, by decide⟩, fun e => absurd e (by decide), am_sub_in 0 _ (List.mem_of_getElem? (i := 4) rfl), ⟨by decide +kernel, by decide +kernel, by decide +kernel⟩, by decide, by decide +kernel, fun e => absurd e (by decide), fun e => absurd e (by decide)⟩
set_option maxRecDepth 100000 in
theorem am_ok_44_0 : am_okR 44 0 100 = true := by decide +kernel
set_option maxRecDepth 100000 in
theorem am_ok_44_1 : am_okR 44 100 5 = true := by decide +kernel
theorem am_ok_44 : am_okM 44 := am_chk (lo := 100) (n := 5) (am_chk (lo := 0) (n := 100) (am_ch0) am_ok_44_0) am_ok_44_1
theorem am_mk_44 : am_mok 44 := ⟨am_sub_in 0 _ (List.mem_of_getElem? (i := 208) rfl), am_sub_in 0 _ (List.mem_of_getElem? (i := 207) rfl), fun _ => am_sub_in 4 _ (List.mem_of_getElem? (i := 2) rfl), fun _ => ⟨rfl, by decide⟩, fun e => absurd e (by decide), am_sub_in 0 _ (List.mem_of_getElem? (i := 4) rfl), ⟨by decide +kernel, by decide +kernel, by decide +kernel⟩, by decide, by decide +kernel, fun e => absurd e (by decide), fun e => absurd e (by decide)⟩
set_option maxRecDepth 100000 in
theorem am_ok_45_0 : am_okR 45 0 16 = true := by decide +kernel
theorem am_ok_45 : am_okM 45 := am_chk (lo := 0) (n := 16) (am_ch0) am_ok_45_0
theorem am_mk_45 : am_mok 45 := ⟨am_sub_in 0 _ (List.mem_of_getElem? (i := 200) rfl), am_sub_in 0 _ (List.mem_of_getElem? (i := 199) rfl), fun e => absurd e (by decide), fun e => absurd e (by decide), fun e => absurd e (by decide), am_sub_in 0 _ (List.mem_of_getElem? (i := 4) rfl), ⟨by decide +kernel, by decide +kernel, by decide +kernel⟩, by decide, by decide +kernel, fun e => absurd e (by decide), fun e => absurd e (by decide)⟩
set_option maxRecDepth 100000 in
theorem am_ok_46_0 : am_okR 46 0 23 = true := by decide +kernel
theorem am_ok_46 : am_okM 46 := am_chk (lo := 0) (n := 23) (am_ch0) am_ok_46_0
theorem am_mk_46 : am_mok 46 := ⟨am_sub_in 1 _ (List.mem_of_getElem? (i := 126) rfl), am_sub_in 1 _ (List.mem_of_getElem? (i := 125) rfl), fun e => absurd e (by decide), fun e => absurd e (by decide), fun _ => ⟨rfl, rfl⟩, am_sub_in 0 _ (List.mem_of_getElem? (i := 13) rfl), ⟨by decide +kernel, by decide +kernel, by decide +kernel⟩, by decide, by decide +kernel, fun e => absurd e (by decide), fun e => absurd e (by decide)⟩
set_option maxRecDepth 100000 in
theorem am_ok_47_0 : am_okR 47 0 100 = true := by decide +kernel
set_option maxRecDepth 100000 in
theorem am_ok_47_1 : am_okR 47 100 32 = true := by decide +kernel
theorem am_ok_47 : am_okM 47 := am_chk (lo := 100) (n := 32) (am_chk (lo := 0) (n := 100) (am_ch0) am_ok_47_0) am_ok_47_1
theorem am_mk_47 : am_mok 47 := ⟨am_sub_in 0 _ (List.mem_of_getElem? (i := 26) rfl), am_sub_in 0 _ (List.mem_of_getElem? (i := 25) rfl), fun e => absurd e (by decide), fun e => absurd e (by decide), fun _ => ⟨rfl, rfl⟩, am_sub_in 0 _ (List.mem_of_getElem? (i := 1) rfl), ⟨by decide +kernel, by decide +kernel, by decide +kernel⟩, by decide, by decide +kernel, fun e => absurd e (by decide), fun e => absurd e (by decide)⟩
set_option maxRecDepth 100000 in
theorem am_ok_48_0 : am_okR 48 0 100 = true := by decide +kernel
set_option maxRecDepth 100000 in
theorem am_ok_48_1 : am_okR 48 100 6 = true := by decide +kernel
theorem am_ok_48 : am_okM 48 := am_chk (lo := 100) (n := 6) (am_chk (lo := 0) (n := 100) (am_ch0) am_ok_48_0) am_ok_48_1
theorem am_mk_48 : am_mok 48 := ⟨am_sub_in 1 _ (List.mem_of_getElem? (i := 172) rfl), am_sub_in 1 _ (List.mem_of_getElem? (i := 170) rfl), fun _ => am_sub_in 1 _ (List.mem_of_getElem? (i := 171) rfl), fun _ => ⟨rfl, by decide⟩, fun e => absurd e (by decide), am_sub_in 0 _ (List.mem_of_getElem? (i := 1) rfl), ⟨by decide +kernel, by decide +kernel, by decide +kernel⟩, by decide, by decide +kernel, fun e => absurd e (by decide), fun e => absurd e (by decide)⟩
set_option maxRecDepth 100000 in
theorem am_ok_49_0 : am_okR 49 0 100 = true := by decide +kernel
set_option maxRecDepth 100000 in
theorem am_ok_49_1 : am_okR 49 100 51 = true := by decide +kernel
theorem am_ok_49 : am_okM 49 := am_chk (lo := 100) (n := 51) (am_chk (lo := 0) (n := 100) (am_ch0) am_ok_49_0) am_ok_49_1
theorem am_mk_49 : am_mok 49 := ⟨am_sub_in 3 _ (List.mem_of_getElem? (i := 134) rfl), am_sub_in 3 _ (List.mem_of_getElem? (i := 132) rfl), fun _ => am_sub_in 3 _ (List.mem_of_getElem? (i := 133) rfl), fun _ => ⟨rfl, by decide⟩, fun e => absurd e (by decide), am_sub_in 0 _ (List.mem_of_getElem? (i := 1) rfl), ⟨by decide +kernel, by decide +kernel, by decide +kernel⟩, by decide, by decide +kernel, fun e => absurd e (by decide), fun e => absurd e (by decide)⟩
set_option maxRecDepth 100000 in
theorem am_ok_50_0 : am_okR 50 0 51 = true := by decide +kernel
theorem am_ok_50 : am_okM 50 := am_chk (lo := 0) (n := 51) (am_ch0) am_ok_50_0
theorem am_mk_50 : am_mok 50 := ⟨am_sub_in 3 _ (List.mem_of_getElem? (i := 142) rfl), am_sub_in 3 _ (List.mem_of_getElem? (i := 140) rfl), fun _ => am_sub_in 3 _ (List.mem_of_getElem? (i := 141) rfl), fun _ => ⟨rfl, by decide⟩, fun e => absurd e (by decide), am_sub_in 0 _ (List.mem_of_getElem? (i := 1) rfl), ⟨by decide +kernel, by decide +kernel, by decide +kernel⟩, by decide, by decide +kernel, fun e => absurd e (by decide), fun e => absurd e (by decide)⟩
set_option maxRecDepth 100000 in
theorem am_ok_51_0 : am_okR 51 0 36 = true := by decide +kernel
theorem am_ok_51 : am_okM 51 := am_chk (lo := 0) (n := 36) (am_ch0) am_ok_51_0
theorem am_mk_51 : am_mok 51 := ⟨am_sub_in 3 _ (List.mem_of_getElem? (i := 150) rfl), am_sub_in 3 _ (List.mem_of_getElem? (i := 148) rfl), fun _ => am_sub_in 3 _ (List.mem_of_getElem? (i := 149) rfl), fun _ => ⟨rfl, by decide⟩, fun e => absurd e (by decide), am_sub_in 0 _ (List.mem_of_getElem? (i := 1) rfl), ⟨by decide +kernel, by decide +kernel, by decide +kernel⟩, by decide, by decide +kernel, fun e => absurd e (by decide), fun e => absurd e (by decide)⟩
set_option maxRecDepth 100000 in
theorem am_ok_52_0 : am_okR 52 0 62 = true := by decide +kernel
theorem am_ok_52 : am_okM 52 := am_chk (lo := 0) (n := 62) (am_ch0) am_ok_52_0
theorem am_mk_52 : am_mok 52 := ⟨am_sub_in 2 _ (List.mem_of_getElem? (i := 97) rfl), am_sub_in 2 _ (List.mem_of_getElem? (i := 95) rfl), fun _ => am_sub_in 2 _ (List.mem_of_getElem? (i := 96) rfl), fun _ => ⟨rfl, by decide⟩, fun e => absurd e (by decide), am_sub_in 0 _ (List.mem_of_getElem? (i := 1) rfl), ⟨by decide +kernel, by decide +kernel, by decide +kernel⟩, by decide, by decide +kernel, fun e => absurd e (by decide), fun e => absurd e (by decide)⟩
set_option maxRecDepth 100000 in
theorem am_ok_53_0 : am_okR 53 0 94 = true := by decide +kernel
theorem am_ok_53 : am_okM 53 := am_chk (lo := 0) (n := 94) (am_ch0) am_ok_53_0
theorem am_mk_53 : am_mok 53 := ⟨am_sub_in 1 _ (List.mem_of_getElem? (i := 176) rfl), am_sub_in 1 _ (List.mem_of_getElem? (i := 174) rfl), fun _ => am_sub_in 1 _ (List.mem_of_getElem? (i := 175) rfl), fun _ => ⟨rfl, by decide⟩, fun e => absurd e (by decide), am_sub_in 0 _ (List.mem_of_getElem? (i := 1) rfl), ⟨by decide +kernel, by decide +kernel, by decide +kernel⟩, by decide, by decide +kernel, fun e => absurd e (by decide), fun e => absurd e (by decide)⟩
set_option maxRecDepth 100000 in
theorem am_ok_54_0 : am_okR 54 0 86 = true := by decide +kernel
theorem am_ok_54 : am_okM 54 := am_chk (lo := 0) (n := 86) (am_ch0) am_ok_54_0
theorem am_mk_54 : am_mok 54 := ⟨am_sub_in 2 _ (List.mem_of_getElem? (i := 140) rfl), am_sub_in 2 _ (List.mem_of_getElem? (i := 138) rfl), fun _ => am_sub_in 2 _ (List.mem_of_getElem? (i := 139) rfl), fun _ => ⟨rfl, by decide⟩, fun e => absurd e (by decide), am_sub_in 0 _ (List.mem_of_getElem? (i := 1) rfl), ⟨by decide +kernel, by decide +kernel, by decide +kernel⟩, by decide, by decide +kernel, fun e => absurd e (by decide), fun e => absurd e (by decide)⟩
end
section
/-! ===== the tables hold, method by method (kernel): 55 to 83 ===== -/
set_option maxRecDepth 100000 in
theorem am_ok_55_0 : am_okR 55 0 100 = true := by decide +kernel
set_option maxRecDepth 100000 in
theorem am_ok_55_1 : am_okR 55 100 10 = true := by decide +kernel
theorem am_ok_55 : am_okM 55 := am_chk (lo := 100) (n := 10) (am_chk (lo := 0) (n := 100) (am_ch0) am_ok_55_0) am_ok_55_1
theorem am_mk_55 : am_mok 55 := ⟨am_sub_in 1 _ (List.mem_of_getElem? (i := 191) rfl), am_sub_in 1 _ (List.mem_of_getElem? (i := 189) rfl), fun _ => am_sub_in 1 _ (List.mem_of_getElem? (i := 190) rfl), fun _ => ⟨rfl, by decide⟩, fun e => absurd e (by decide), am_sub_in 0 _ (List.mem_of_getElem? (i := 1) rfl), ⟨by decide +kernel, by decide +kernel, by decide +kernel⟩, by decide, by decide +kernel, fun e => absurd e (by decide), fun e => absurd e (by decide)⟩
set_option maxRecDepth 100000 in
theorem am_ok_56_0 : am_okR 56 0 25 = true := by decide +kernel
theorem am_ok_56 : am_okM 56 := am_chk (lo := 0) (n := 25) (am_ch0) am_ok_56_0
theorem am_mk_56 : am_mok 56 := ⟨am_sub_in 1 _ (List.mem_of_getElem? (i := 203) rfl), am_sub_in 1 _ (List.mem_of_getElem? (i := 201) rfl), fun _ => am_sub_in 1 _ (List.mem_of_getElem? (i := 202) rfl), fun _ => ⟨rfl, by decide⟩, fun e => absurd e (by decide), am_sub_in 0 _ (List.mem_of_getElem? (i := 1) rfl), ⟨by decide +kernel, by decide +kernel, by decide +kernel⟩, by decide, by decide +kernel, fun e => absurd e (by decide), fun e => absurd e (by decide)⟩
set_option maxRecDepth 100000 in
theorem am_ok_57_0 : am_okR 57 0 22 = true := by decide +kernel
theorem am_ok_57 : am_okM 57 := am_chk (lo := 0) (n := 22) (am_ch0) am_ok_57_0
theorem am_mk_57 : am_mok 57 := ⟨am_sub_in 1 _ (List.mem_of_getElem? (i := 216) rfl), am_sub_in 1 _ (List.mem_of_getElem? (i := 214) rfl), fun _ => am_sub_in 1 _ (List.mem_of_getElem? (i := 215) rfl), fun _ => ⟨rfl, by decide⟩, fun e => absurd e (by decide), am_sub_in 0 _ (List.mem_of_getElem? (i := 1) rfl), ⟨by decide +kernel, by decide +kernel, by decide +kernel⟩, by decide, by decide +kernel, fun e => absurd e (by decide), fun e => absurd e (by decide)⟩
set_option maxRecDepth 100000 in
theorem am_ok_58_0 : am_okR 58 0 79 = true := by decide +kernel
theorem am_ok_58 : am_okM 58 := am_chk (lo := 0) (n := 79) (am_ch0) am_ok_58_0
theorem am_mk_58 : am_mok 58 := ⟨am_sub_in 1 _ (List.mem_of_getElem? (i := 228) rfl), am_sub_in 1 _ (List.mem_of_getElem? (i := 226) rfl), fun _ => am_sub_in 1 _ (List.mem_of_getElem? (i := 227) rfl), fun _ => ⟨rfl, by decide⟩, fun e => absurd e (by decide), am_sub_in 0 _ (List.mem_of_getElem? (i := 1) rfl), ⟨by decide +kernel, by decide +kernel, by decide +kernel⟩, by decide, by decide +kernel, fun e => absurd e (by decide), fun e => absurd e (by decide)⟩
set_option maxRecDepth 100000 in
theorem am_ok_59_0 : am_okR 59 0 59 = true := by decide +kernel
theorem am_ok_59 : am_okM 59 := am_chk (lo := 0) (n := 59) (am_ch0) am_ok_59_0
theorem am_mk_59 : am_mok 59 := ⟨am_sub_in 1 _ (List.mem_of_getElem? (i := 239) rfl), am_sub_in 1 _ (List.mem_of_getElem? (i := 237) rfl), fun _ => am_sub_in 1 _ (List.mem_of_getElem? (i := 238) rfl), fun _ => ⟨rfl, by decide⟩, fun e => absurd e (by decide), am_sub_in 0 _ (List.mem_of_getElem? (i := 1) rfl), ⟨by decide +kernel, by decide +kernel, by decide +kernel⟩, by decide, by decide +kernel, fun e => absurd e (by decide), fun e => absurd e (by decide)⟩
set_option maxRecDepth 100000 in
theorem am_ok_60_0 : am_okR 60 0 25 = true := by decide +kernel
theorem am_ok_60 : am_okM 60 := am_chk (lo := 0) (n := 25) (am_ch0) am_ok_60_0
theorem am_mk_60 : am_mok 60 := ⟨am_sub_in 2 _ (List.mem_of_getElem? (i := 24) rfl), am_sub_in 2 _ (List.mem_of_getElem? (i := 22) rfl), fun _ => am_sub_in 2 _ (List.mem_of_getElem? (i := 23) rfl), fun _ => ⟨rfl, by decide⟩, fun e => absurd e (by decide), am_sub_in 0 _ (List.mem_of_getElem? (i := 1) rfl), ⟨by decide +kernel, by decide +kernel, by decide +kernel⟩, by decide, by decide +kernel, fun e => absurd e (by decide), fun e => absurd e (by decide)⟩
set_option maxRecDepth 100000 in
theorem am_ok_61_0 : am_okR 61 0 25 = true := by decide +kernel
theorem am_ok_61 : am_okM 61 := am_chk (lo := 0) (n := 25) (am_ch0) am_ok_61_0
theorem am_mk_61 : am_mok 61 := ⟨am_sub_in 2 _ (List.mem_of_getElem? (i := 33) rfl), am_sub_in 2 _ (List.mem_of_getElem? (i := 31) rfl), fun _ => am_sub_in 2 _ (List.mem_of_getElem? (i := 32) rfl), fun _ => ⟨rfl, by decide⟩, fun e => absurd e (by decide), am_sub_in 0 _ (List.mem_of_getElem? (i := 1) rfl), ⟨by decide +kernel, by decide +kernel, by decide +kernel⟩, by decide, by decide +kernel, fun e => absurd e (by decide), fun e => absurd e (by decide)⟩
set_option maxRecDepth 100000 in
theorem am_ok_62_0 : am_okR 62 0 62 = true := by decide +kernel
theorem am_ok_62 : am_okM 62 := am_chk (lo := 0) (n := 62) (am_ch0) am_ok_62_0
theorem am_mk_62 : am_mok 62 := ⟨am_sub_in 2 _ (List.mem_of_getElem? (i := 43) rfl), am_sub_in 2 _ (List.mem_of_getElem? (i := 41) rfl), fun _ => am_sub_in 2 _ (List.mem_of_getElem? (i := 42) rfl), fun _ => ⟨rfl, by decide⟩, fun e => absurd e (by decide), am_sub_in 0 _ (List.mem_of_getElem? (i := 1) rfl), ⟨by decide +kernel, by decide +kernel, by decide +kernel⟩, by decide, by decide +kernel, fun e => absurd e (by decide), fun e => absurd e (by decide)⟩
set_option maxRecDepth 100000 in
theorem am_ok_63_0 : am_okR 63 0 35 = true := by decide +kernel
theorem am_ok_63 : am_okM 63 := am_chk (lo := 0) (n := 35) (am_ch0) am_ok_63_0
theorem am_mk_63 : am_mok 63 := ⟨am_sub_in 2 _ (List.mem_of_getElem? (i := 67) rfl), am_sub_in 2 _ (List.mem_of_getElem? (i := 65) rfl), fun _ => am_sub_in 2 _ (List.mem_of_getElem? (i := 66) rfl), fun _ => ⟨rfl, by decide⟩, fun e => absurd e (by decide), am_sub_in 0 _ (List.mem_of_getElem? (i := 1) rfl), ⟨by decide +kernel, by decide +kernel, by decide +kernel⟩, by decide, by decide +kernel, fun e => absurd e (by decide), fun e => absurd e (by decide)⟩
set_option maxRecDepth 100000 in
theorem am_ok_64_0 : am_okR 64 0 14 = true := by decide +kernel
theorem am_ok_64 : am_okM 64 := am_chk (lo := 0) (n := 14) (am_ch0) am_ok_64_0
theorem am_mk_64 : am_mok 64 := ⟨am_sub_in 1 _ (List.mem_of_getElem? (i := 187) rfl), am_sub_in 1 _ (List.mem_of_getElem? (i := 186) rfl), fun e => absurd e (by decide), fun e => absurd e (by decide), fun e => absurd e (by decide), am_sub_in 0 _ (List.mem_of_getElem? (i := 1) rfl), ⟨by decide +kernel, by decide +kernel, by decide +kernel⟩, by decide, by decide +kernel, fun e => absurd e (by decide), fun e => absurd e (by decide)⟩
set_option maxRecDepth 100000 in
theorem am_ok_65_0 : am_okR 65 0 17 = true := by decide +kernel
theorem am_ok_65 : am_okM 65 := am_chk (lo := 0) (n := 17) (am_ch0) am_ok_65_0
theorem am_mk_65 : am_mok 65 := ⟨am_sub_in 3 _ (List.mem_of_getElem? (i := 137) rfl), am_sub_in 3 _ (List.mem_of_getElem? (i := 136) rfl), fun e => absurd e (by decide), fun e => absurd e (by decide), fun e => absurd e (by decide), am_sub_in 0 _ (List.mem_of_getElem? (i := 1) rfl), ⟨by decide +kernel, by decide +kernel, by decide +kernel⟩, by decide, by decide +kernel, fun e => absurd e (by decide), fun e => absurd e (by decide)⟩
set_option maxRecDepth 100000 in
theorem am_ok_66_0 : am_okR 66 0 15 = true := by decide +kernel
theorem am_ok_66 : am_okM 66 := am_chk (lo := 0) (n := 15) (am_ch0) am_ok_66_0
theorem am_mk_66 : am_mok 66 := ⟨am_sub_in 2 _ (List.mem_of_getElem? (i := 46) rfl), am_sub_in 2 _ (List.mem_of_getElem? (i := 45) rfl), fun e => absurd e (by decide), fun e => absurd e (by decide), fun e => absurd e (by decide), am_sub_in 0 _ (List.mem_of_getElem? (i := 1) rfl), ⟨by decide +kernel, by decide +kernel, by decide +kernel⟩, by decide, by decide +kernel, fun e => absurd e (by decide), fun e => absurd e (by decide)⟩
set_option maxRecDepth 100000 in
theorem am_ok_67_0 : am_okR 67 0 16 = true := by decide +kernel
theorem am_ok_67 : am_okM 67 := am_chk (lo := 0) (n := 16) (am_ch0) am_ok_67_0
theorem am_mk_67 : am_mok 67 := ⟨am_sub_in 2 _ (List.mem_of_getElem? (i := 103) rfl), am_sub_in 2 _ (List.mem_of_getElem? (i := 102) rfl), fun e => absurd e (by decide), fun e => absurd e (by decide), fun e => absurd e (by decide), am_sub_in 0 _ (List.mem_of_getElem? (i := 1) rfl), ⟨by decide +kernel, by decide +kernel, by decide +kernel⟩, by decide, by decide +kernel, fun e => absurd e (by decide), fun e => absurd e (by decide)⟩
set_option maxRecDepth 100000 in
theorem am_ok_68_0 : am_okR 68 0 16 = true := by decide +kernel
theorem am_ok_68 : am_okM 68 := am_chk (lo := 0) (n := 16) (am_ch0) am_ok_68_0
theorem am_mk_68 : am_mok 68 := ⟨am_sub_in 2 _ (List.mem_of_getElem? (i := 100) rfl), am_sub_in 2 _ (List.mem_of_getElem? (i := 99) rfl), fun e => absurd e (by decide), fun e => absurd e (by decide), fun e => absurd e (by decide), am_sub_in 0 _ (List.mem_of_getElem? (i := 1) rfl), ⟨by decide +kernel, by decide +kernel, by decide +kernel⟩, by decide, by decide +kernel, fun e => absurd e (by decide), fun e => absurd e (by decide)⟩
set_option maxRecDepth 100000 in
theorem am_ok_69_0 : am_okR 69 0 15 = true := by decide +kernel
theorem am_ok_69 : am_okM 69 := am_chk (lo := 0) (n := 15) (am_ch0) am_ok_69_0
theorem am_mk_69 : am_mok 69 := ⟨am_sub_in 2 _ (List.mem_of_getElem? (i := 143) rfl), am_sub_in 2 _ (List.mem_of_getElem? (i := 142) rfl), fun e => absurd e (by decide), fun e => absurd e (by decide), fun e => absurd e (by decide), am_sub_in 0 _ (List.mem_of_getElem? (i := 1) rfl), ⟨by decide +kernel, by decide +kernel, by decide +kernel⟩, by decide, by decide +kernel, fun e => absurd e (by decide), fun e => absurd e (by decide)⟩
set_option maxRecDepth 100000 in
theorem am_ok_70_0 : am_okR 70 0 100 = true := by decide +kernel
set_option maxRecDepth 100000 in
theorem am_ok_70_1 : am_okR 70 100 66 = true := by decide +kernel
theorem am_ok_70 : am_okM 70 := am_chk (lo := 100) (n := 66) (am_chk (lo := 0) (n := 100) (am_ch0) am_ok_70_0) am_ok_70_1
theorem am_mk_70 : am_mok 70 := ⟨am_sub_in 2 _ (List.mem_of_getElem? (i := 71) rfl), am_sub_in 2 _ (List.mem_of_getElem? (i := 70) rfl), fun _ => am_sub_in 4 _ (List.mem_of_getElem? (i := 12) rfl), fun _ => ⟨rfl, by decide⟩, fun e => absurd e (by decide), am_sub_in 0 _ (List.mem_of_getElem? (i := 1) rfl), ⟨by decide +kernel, by decide +kernel, by decide +kernel⟩, by decide, by decide +kernel, fun e => absurd e (by decide), fun e => absurd e (by decide)⟩
set_option maxRecDepth 100000 in
theorem am_ok_71_0 : am_okR 71 0 44 = true := by decide +kernel
theorem am_ok_71 : am_okM 71 := am_chk (lo := 0) (n := 44) (am_ch0) am_ok_71_0
theorem am_mk_71 : am_mok 71 := ⟨am_sub_in 2 _ (List.mem_of_getElem? (i := 75) rfl), am_sub_in 2 _ (List.mem_of_getElem? (i := 74) rfl), fun _ => am_sub_in 4 _ (List.mem_of_getElem? (i := 13) rfl), fun _ => ⟨rfl, by decide⟩, fun e => absurd e (by decide), am_sub_in 0 _ (List.mem_of_getElem? (i := 1) rfl), ⟨by decide +kernel, by decide +kernel, by decide +kernel⟩, by decide, by decide +kernel, fun e => absurd e (by decide), fun e => absurd e (by decide)⟩
set_option maxRecDepth 100000 in
theorem am_ok_72_0 : am_okR 72 0 39 = true := by decide +kernel
theorem am_ok_72 : am_okM 72 := am_chk (lo := 0) (n := 39) (am_ch0) am_ok_72_0
theorem am_mk_72 : am_mok 72 := ⟨am_sub_in 2 _ (List.mem_of_getElem? (i := 169) rfl), am_sub_in 2 _ (List.mem_of_getElem? (i := 168) rfl), fun e => absurd e (by decide), fun e => absurd e (by decide), fun _ => ⟨rfl, rfl⟩, am_sub_in 0 _ (List.mem_of_getElem? (i := 16) rfl), ⟨by decide +kernel, by decide +kernel, by decide +kernel⟩, by decide, by decide +kernel, fun e => absurd e (by decide), fun e => absurd e (by decide)⟩
set_option maxRecDepth 100000 in
theorem am_ok_73_0 : am_okR 73 0 5 = true := by decide +kernel
theorem am_ok_73 : am_okM 73 := am_chk (lo := 0) (n := 5) (am_ch0) am_ok_73_0
theorem am_mk_73 : am_mok 73 := ⟨am_sub_in 3 _ (List.mem_of_getElem? (i := 94) rfl), am_sub_in 3 _ (List.mem_of_getElem? (i := 88) rfl), fun e => absurd e (by decide), fun e => absurd e (by decide), fun e => absurd e (by decide), am_sub_in 0 _ (List.mem_of_getElem? (i := 16) rfl), ⟨by decide +kernel, by decide +kernel, by decide +kernel⟩, by decide, by decide +kernel, fun e => absurd e (by decide), fun _ => ⟨rfl, by decide +kernel, am_sub_in 3 _ (List.mem_of_getElem? (i := 89) rfl)⟩⟩
set_option maxRecDepth 100000 in
theorem am_ok_74_0 : am_okR 74 0 39 = true := by decide +kernel
theorem am_ok_74 : am_okM 74 := am_chk (lo := 0) (n := 39) (am_ch0) am_ok_74_0
theorem am_mk_74 : am_mok 74 := ⟨am_sub_in 2 _ (List.mem_of_getElem? (i := 207) rfl), am_sub_in 2 _ (List.mem_of_getElem? (i := 206) rfl), fun e => absurd e (by decide), fun e => absurd e (by decide), fun e => absurd e (by decide), am_sub_in 0 _ (List.mem_of_getElem? (i := 16) rfl), ⟨by decide +kernel, by decide +kernel, by decide +kernel⟩, by decide, by decide +kernel, fun _ => ⟨rfl, am_sub_in 3 _ (List.mem_of_getElem? (i := 186) rfl), am_sub_in 5 _ (List.mem_of_getElem? (i := 0) rfl)⟩, fun e => absurd e (by decide)⟩
set_option maxRecDepth 100000 in
theorem am_ok_75_0 : am_okR 75 0 59 = true := by decide +kernel
theorem am_ok_75 : am_okM 75 := am_chk (lo := 0) (n := 59) (am_ch0) am_ok_75_0
theorem am_mk_75 : am_mok 75 := ⟨am_sub_in 2 _ (List.mem_of_getElem? (i := 211) rfl), am_sub_in 2 _ (List.mem_of_getElem? (i := 210) rfl), fun e => absurd e (by decide), fun e => absurd e (by decide), fun e => absurd e (by decide), am_sub_in 0 _ (List.mem_of_getElem? (i := 16) rfl), ⟨by decide +kernel, by decide +kernel, by decide +kernel⟩, by decide, by decide +kernel, fun _ => ⟨rfl, am_sub_in 3 _ (List.mem_of_getElem? (i := 187) rfl), am_sub_in 5 _ (List.mem_of_getElem? (i := 1) rfl)⟩, fun e => absurd e (by decide)⟩
set_option maxRecDepth 100000 in
theorem am_ok_76_0 : am_okR 76 0 45 = true := by decide +kernel
theorem am_ok_76 : am_okM 76 := am_chk (lo := 0) (n := 45) (am_ch0) am_ok_76_0
theorem am_mk_76 : am_mok 76 := ⟨am_sub_in 2 _ (List.mem_of_getElem? (i := 199) rfl), am_sub_in 2 _ (List.mem_of_getElem? (i := 198) rfl), fun e => absurd e (by decide), fun e => absurd e (by decide), fun e => absurd e (by decide), am_sub_in 0 _ (List.mem_of_getElem? (i := 16) rfl), ⟨by decide +kernel, by decide +kernel, by decide +kernel⟩, by decide, by decide +kernel, fun e => absurd e (by decide), fun _ => ⟨rfl, by decide +kernel, am_sub_in 3 _ (List.mem_of_getElem? (i := 184) rfl)⟩⟩
set_option maxRecDepth 100000 in
theorem am_ok_77_0 : am_okR 77 0 55 = true := by decide +kernel
theorem am_ok_77 : am_okM 77 := am_chk (lo := 0) (n := 55) (am_ch0) am_ok_77_0
theorem am_mk_77 : am_mok 77 := ⟨am_sub_in 3 _ (List.mem_of_getElem? (i := 47) rfl), am_sub_in 3 _ (List.mem_of_getElem? (i := 46) rfl), fun e => absurd e (by decide), fun e => absurd e (by decide), fun e => absurd e (by decide), am_sub_in 0 _ (List.mem_of_getElem? (i := 16) rfl), ⟨by decide +kernel, by decide +kernel, by decide +kernel⟩, by decide, by decide +kernel, fun e => absurd e (by decide), fun _ => ⟨rfl, by decide +kernel, am_sub_in 3 _ (List.mem_of_getElem? (i := 191) rfl)⟩⟩
set_option maxRecDepth 100000 in
theorem am_ok_78_0 : am_okR 78 0 5 = true := by decide +kernel
theorem am_ok_78 : am_okM 78 := am_chk (lo := 0) (n := 5) (am_ch0) am_ok_78_0
theorem am_mk_78 : am_mok 78 := ⟨am_sub_in 3 _ (List.mem_of_getElem? (i := 86) rfl), am_sub_in 3 _ (List.mem_of_getElem? (i := 83) rfl), fun e => absurd e (by decide), fun e => absurd e (by decide), fun e => absurd e (by decide), am_sub_in 0 _ (List.mem_of_getElem? (i := 16) rfl), ⟨by decide +kernel, by decide +kernel, by decide +kernel⟩, by decide, by decide +kernel, fun _ => ⟨rfl, am_sub_in 3 _ (List.mem_of_getElem? (i := 84) rfl), am_sub_in 3 _ (List.mem_of_getElem? (i := 85) rfl)⟩, fun e => absurd e (by decide)⟩
set_option maxRecDepth 100000 in
theorem am_ok_79_0 : am_okR 79 0 19 = true := by decide +kernel
theorem am_ok_79 : am_okM 79 := am_chk (lo := 0) (n := 19) (am_ch0) am_ok_79_0
theorem am_mk_79 : am_mok 79 := ⟨am_sub_in 2 _ (List.mem_of_getElem? (i := 239) rfl), am_sub_in 2 _ (List.mem_of_getElem? (i := 236) rfl), fun e => absurd e (by decide), fun e => absurd e (by decide), fun e => absurd e (by decide), am_sub_in 0 _ (List.mem_of_getElem? (i := 16) rfl), ⟨by decide +kernel, by decide +kernel, by decide +kernel⟩, by decide, by decide +kernel, fun _ => ⟨rfl, am_sub_in 2 _ (List.mem_of_getElem? (i := 237) rfl), am_sub_in 2 _ (List.mem_of_getElem? (i := 238) rfl)⟩, fun e => absurd e (by decide)⟩
set_option maxRecDepth 100000 in
theorem am_ok_80_0 : am_okR 80 0 22 = true := by decide +kernel
theorem am_ok_80 : am_okM 80 := am_chk (lo := 0) (n := 22) (am_ch0) am_ok_80_0
theorem am_mk_80 : am_mok 80 := ⟨am_sub_in 3 _ (List.mem_of_getElem? (i := 14) rfl), am_sub_in 3 _ (List.mem_of_getElem? (i := 13) rfl), fun e => absurd e (by decide), fun e => absurd e (by decide), fun e => absurd e (by decide), am_sub_in 0 _ (List.mem_of_getElem? (i := 16) rfl), ⟨by decide +kernel, by decide +kernel, by decide +kernel⟩, by decide, by decide +kernel, fun _ => ⟨rfl, am_sub_in 3 _ (List.mem_of_getElem? (i := 189) rfl), am_sub_in 5 _ (List.mem_of_getElem? (i := 3) rfl)⟩, fun e => absurd e (by decide)⟩
set_option maxRecDepth 100000 in
theorem am_ok_81_0 : am_okR 81 0 19 = true := by decide +kernel
theorem am_ok_81 : am_okM 81 := am_chk (lo := 0) (n := 19) (am_ch0) am_ok_81_0
theorem am_mk_81 : am_mok 81 := ⟨am_sub_in 3 _ (List.mem_of_getElem? (i := 10) rfl), am_sub_in 3 _ (List.mem_of_getElem? (i := 9) rfl), fun e => absurd e (by decide), fun e => absurd e (by decide), fun e => absurd e (by decide), am_sub_in 0 _ (List.mem_of_getElem? (i := 16) rfl), ⟨by decide +kernel, by decide +kernel, by decide +kernel⟩, by decide, by decide +kernel, fun _ => ⟨rfl, am_sub_in 3 _ (List.mem_of_getElem? (i := 188) rfl), am_sub_in 5 _ (List.mem_of_getElem? (i := 2) rfl)⟩, fun e => absurd e (by decide)⟩
set_option maxRecDepth 100000 in
theorem am_ok_82_0 : am_okR 82 0 100 = true := by decide +kernel
set_option maxRecDepth 100000 in
theorem am_ok_82_1 : am_okR 82 100 21 = true := by decide +kernel
theorem am_ok_82 : am_okM 82 := am_chk (lo := 100) (n := 21) (am_chk (lo := 0) (n := 100) (am_ch0) am_ok_82_0) am_ok_82_1
theorem am_mk_82 : am_mok 82 := ⟨am_sub_in 3 _ (List.mem_of_getElem? (i := 53) rfl), am_sub_in 3 _ (List.mem_of_getElem? (i := 52) rfl), fun e => absurd e (by decide), fun e => absurd e (by decide), fun e => absurd e (by decide), am_sub_in 0 _ (List.mem_of_getElem? (i := 15) rfl), ⟨by decide +kernel, by decide +kernel, by decide +kernel⟩, by decide, by decide +kernel, fun e => absurd e (by decide), fun e => absurd e (by decide)⟩
set_option maxRecDepth 100000 in
theorem am_ok_83_0 : am_okR 83 0 47 = true := by decide +kernel
theorem am_ok_83 : am_okM 83 := am_chk (lo := 0) (n := 47) (am_ch0) am_ok_83_0
theorem am_mk_83 : am_mok 83 := ⟨am_sub_in 3 _ (List.mem_of_getElem? (i := 50) rfl), am_sub_in 3 _ (List.mem_of_getElem? (i := 49) rfl), fun e => absurd e (by decide), fun e => absurd e (by decide), fun e => absurd e (by decide), am_sub_in 0 _ (List.mem_of_getElem? (i := 15) rfl), ⟨by decide +kernel, by decide +kernel, by decide +kernel⟩, by decide, by decide +kernel, fun e => absurd e (by decide), fun e => absurd e (by decide)⟩
end
section
/-! ===== the tables hold, method by method (kernel): 84 to 124 ===== -/
set_option maxRecDepth 100000 in
theorem am_ok_84_0 : am_okR 84 0 53 = true := by decide +kernel
theorem am_ok_84 : am_okM 84 := am_chk (lo := 0) (n := 53) (am_ch0) am_ok_84_0
theorem am_mk_84 : am_mok 84 := ⟨am_sub_in 1 _ (List.mem_of_getElem? (i := 232) rfl), am_sub_in 1 _ (List.mem_of_getElem? (i := 231) rfl), fun e => absurd e (by decide), fun e => absurd e (by decide), fun e => absurd e (by decide), am_sub_in 0 _ (List.mem_of_getElem? (i := 15) rfl), ⟨by decide +kernel, by decide +kernel, by decide +kernel⟩, by decide, by decide +kernel, fun e => absurd e (by decide), fun e => absurd e (by decide)⟩
set_option maxRecDepth 100000 in
theorem am_ok_85_0 : am_okR 85 0 61 = true := by decide +kernel
theorem am_ok_85 : am_okM 85 := am_chk (lo := 0) (n := 61) (am_ch0) am_ok_85_0
theorem am_mk_85 : am_mok 85 := ⟨am_sub_in 3 _ (List.mem_of_getElem? (i := 179) rfl), am_sub_in 3 _ (List.mem_of_getElem? (i := 178) rfl), fun e => absurd e (by decide), fun e => absurd e (by decide), fun e => absurd e (by decide), am_sub_in 0 _ (List.mem_of_getElem? (i := 21) rfl), ⟨by decide +kernel, by decide +kernel, by decide +kernel⟩, by decide, by decide +kernel, fun e => absurd e (by decide), fun e => absurd e (by decide)⟩
set_option maxRecDepth 100000 in
theorem am_ok_86_0 : am_okR 86 0 7 = true := by decide +kernel
theorem am_ok_86 : am_okM 86 := am_chk (lo := 0) (n := 7) (am_ch0) am_ok_86_0
theorem am_mk_86 : am_mok 86 := ⟨am_sub_in 3 _ (List.mem_of_getElem? (i := 77) rfl), am_sub_in 3 _ (List.mem_of_getElem? (i := 76) rfl), fun e => absurd e (by decide), fun e => absurd e (by decide), fun _ => ⟨rfl, rfl⟩, am_sub_in 0 _ (List.mem_of_getElem? (i := 5) rfl), ⟨by decide +kernel, by decide +kernel, by decide +kernel⟩, by decide, by decide +kernel, fun e => absurd e (by decide), fun e => absurd e (by decide)⟩
set_option maxRecDepth 100000 in
theorem am_ok_87_0 : am_okR 87 0 11 = true := by decide +kernel
theorem am_ok_87 : am_okM 87 := am_chk (lo := 0) (n := 11) (am_ch0) am_ok_87_0
theorem am_mk_87 : am_mok 87 := ⟨am_sub_in 0 _ (List.mem_of_getElem? (i := 141) rfl), am_sub_in 0 _ (List.mem_of_getElem? (i := 139) rfl), fun _ => am_sub_in 0 _ (List.mem_of_getElem? (i := 140) rfl), fun _ => ⟨rfl, by decide⟩, fun e => absurd e (by decide), am_sub_in 0 _ (List.mem_of_getElem? (i := 5) rfl), ⟨by decide +kernel, by decide +kernel, by decide +kernel⟩, by decide, by decide +kernel, fun e => absurd e (by decide), fun e => absurd e (by decide)⟩
set_option maxRecDepth 100000 in
theorem am_ok_88_0 : am_okR 88 0 25 = true := by decide +kernel
theorem am_ok_88 : am_okM 88 := am_chk (lo := 0) (n := 25) (am_ch0) am_ok_88_0
theorem am_mk_88 : am_mok 88 := ⟨am_sub_in 0 _ (List.mem_of_getElem? (i := 151) rfl), am_sub_in 0 _ (List.mem_of_getElem? (i := 149) rfl), fun _ => am_sub_in 0 _ (List.mem_of_getElem? (i := 150) rfl), fun _ => ⟨rfl, by decide⟩, fun e => absurd e (by decide), am_sub_in 0 _ (List.mem_of_getElem? (i := 5) rfl), ⟨by decide +kernel, by decide +kernel, by decide +kernel⟩, by decide, by decide +kernel, fun e => absurd e (by decide), fun e => absurd e (by decide)⟩
set_option maxRecDepth 100000 in
theorem am_ok_89_0 : am_okR 89 0 7 = true := by decide +kernel
theorem am_ok_89 : am_okM 89 := am_chk (lo := 0) (n := 7) (am_ch0) am_ok_89_0
theorem am_mk_89 : am_mok 89 := ⟨am_sub_in 0 _ (List.mem_of_getElem? (i := 220) rfl), am_sub_in 0 _ (List.mem_of_getElem? (i := 218) rfl), fun _ => am_sub_in 0 _ (List.mem_of_getElem? (i := 219) rfl), fun _ => ⟨rfl, by decide⟩, fun e => absurd e (by decide), am_sub_in 0 _ (List.mem_of_getElem? (i := 5) rfl), ⟨by decide +kernel, by decide +kernel, by decide +kernel⟩, by decide, by decide +kernel, fun e => absurd e (by decide), fun e => absurd e (by decide)⟩
set_option maxRecDepth 100000 in
theorem am_ok_90_0 : am_okR 90 0 37 = true := by decide +kernel
theorem am_ok_90 : am_okM 90 := am_chk (lo := 0) (n := 37) (am_ch0) am_ok_90_0
theorem am_mk_90 : am_mok 90 := ⟨am_sub_in 0 _ (List.mem_of_getElem? (i := 224) rfl), am_sub_in 0 _ (List.mem_of_getElem? (i := 222) rfl), fun _ => am_sub_in 0 _ (List.mem_of_getElem? (i := 223) rfl), fun _ => ⟨rfl, by decide⟩, fun e => absurd e (by decide), am_sub_in 0 _ (List.mem_of_getElem? (i := 5) rfl), ⟨by decide +kernel, by decide +kernel, by decide +kernel⟩, by decide, by decide +kernel, fun e => absurd e (by decide), fun e => absurd e (by decide)⟩
set_option maxRecDepth 100000 in
theorem am_ok_91_0 : am_okR 91 0 44 = true := by decide +kernel
theorem am_ok_91 : am_okM 91 := am_chk (lo := 0) (n := 44) (am_ch0) am_ok_91_0
theorem am_mk_91 : am_mok 91 := ⟨am_sub_in 3 _ (List.mem_of_getElem? (i := 38) rfl), am_sub_in 3 _ (List.mem_of_getElem? (i := 36) rfl), fun _ => am_sub_in 3 _ (List.mem_of_getElem? (i := 37) rfl), fun _ => ⟨rfl, by decide⟩, fun e => absurd e (by decide), am_sub_in 0 _ (List.mem_of_getElem? (i := 5) rfl), ⟨by decide +kernel, by decide +kernel, by decide +kernel⟩, by decide, by decide +kernel, fun e => absurd e (by decide), fun e => absurd e (by decide)⟩
set_option maxRecDepth 100000 in
theorem am_ok_92_0 : am_okR 92 0 98 = true := by decide +kernel
theorem am_ok_92 : am_okM 92 := am_chk (lo := 0) (n := 98) (am_ch0) am_ok_92_0
theorem am_mk_92 : am_mok 92 := ⟨am_sub_in 3 _ (List.mem_of_getElem? (i := 80) rfl), am_sub_in 3 _ (List.mem_of_getElem? (i := 79) rfl), fun e => absurd e (by decide), fun e => absurd e (by decide), fun _ => ⟨rfl, rfl⟩, am_sub_in 0 _ (List.mem_of_getElem? (i := 5) rfl), ⟨by decide +kernel, by decide +kernel, by decide +kernel⟩, by decide, by decide +kernel, fun e => absurd e (by decide), fun e => absurd e (by decide)⟩
set_option maxRecDepth 100000 in
theorem am_ok_93_0 : am_okR 93 0 15 = true := by decide +kernel
theorem am_ok_93 : am_okM 93 := am_chk (lo := 0) (n := 15) (am_ch0) am_ok_93_0
theorem am_mk_93 : am_mok 93 := ⟨am_sub_in 0 _ (List.mem_of_getElem? (i := 145) rfl), am_sub_in 0 _ (List.mem_of_getElem? (i := 143) rfl), fun _ => am_sub_in 0 _ (List.mem_of_getElem? (i := 144) rfl), fun _ => ⟨rfl, by decide⟩, fun e => absurd e (by decide), am_sub_in 0 _ (List.mem_of_getElem? (i := 5) rfl), ⟨by decide +kernel, by decide +kernel, by decide +kernel⟩, by decide, by decide +kernel, fun e => absurd e (by decide), fun e => absurd e (by decide)⟩
set_option maxRecDepth 100000 in
theorem am_ok_94_0 : am_okR 94 0 19 = true := by decide +kernel
theorem am_ok_94 : am_okM 94 := am_chk (lo := 0) (n := 19) (am_ch0) am_ok_94_0
theorem am_mk_94 : am_mok 94 := ⟨am_sub_in 0 _ (List.mem_of_getElem? (i := 155) rfl), am_sub_in 0 _ (List.mem_of_getElem? (i := 153) rfl), fun _ => am_sub_in 0 _ (List.mem_of_getElem? (i := 154) rfl), fun _ => ⟨rfl, by decide⟩, fun e => absurd e (by decide), am_sub_in 0 _ (List.mem_of_getElem? (i := 5) rfl), ⟨by decide +kernel, by decide +kernel, by decide +kernel⟩, by decide, by decide +kernel, fun e => absurd e (by decide), fun e => absurd e (by decide)⟩
set_option maxRecDepth 100000 in
theorem am_ok_95_0 : am_okR 95 0 7 = true := by decide +kernel
theorem am_ok_95 : am_okM 95 := am_chk (lo := 0) (n := 7) (am_ch0) am_ok_95_0
theorem am_mk_95 : am_mok 95 := ⟨am_sub_in 2 _ (List.mem_of_getElem? (i := 166) rfl), am_sub_in 2 _ (List.mem_of_getElem? (i := 165) rfl), fun e => absurd e (by decide), fun e => absurd e (by decide), fun _ => ⟨rfl, rfl⟩, am_sub_in 0 _ (List.mem_of_getElem? (i := 17) rfl), ⟨by decide +kernel, by decide +kernel, by decide +kernel⟩, by decide, by decide +kernel, fun e => absurd e (by decide), fun e => absurd e (by decide)⟩
set_option maxRecDepth 100000 in
theorem am_ok_96_0 : am_okR 96 0 8 = true := by decide +kernel
theorem am_ok_96 : am_okM 96 := am_chk (lo := 0) (n := 8) (am_ch0) am_ok_96_0
theorem am_mk_96 : am_mok 96 := ⟨am_sub_in 2 _ (List.mem_of_getElem? (i := 196) rfl), am_sub_in 2 _ (List.mem_of_getElem? (i := 194) rfl), fun _ => am_sub_in 2 _ (List.mem_of_getElem? (i := 195) rfl), fun _ => ⟨rfl, by decide⟩, fun e => absurd e (by decide), am_sub_in 0 _ (List.mem_of_getElem? (i := 17) rfl), ⟨by decide +kernel, by decide +kernel, by decide +kernel⟩, by decide, by decide +kernel, fun e => absurd e (by decide), fun e => absurd e (by decide)⟩
set_option maxRecDepth 100000 in
theorem am_ok_97_0 : am_okR 97 0 8 = true := by decide +kernel
theorem am_ok_97 : am_okM 97 := am_chk (lo := 0) (n := 8) (am_ch0) am_ok_97_0
theorem am_mk_97 : am_mok 97 := ⟨am_sub_in 3 _ (List.mem_of_getElem? (i := 44) rfl), am_sub_in 3 _ (List.mem_of_getElem? (i := 42) rfl), fun _ => am_sub_in 3 _ (List.mem_of_getElem? (i := 43) rfl), fun _ => ⟨rfl, by decide⟩, fun e => absurd e (by decide), am_sub_in 0 _ (List.mem_of_getElem? (i := 17) rfl), ⟨by decide +kernel, by decide +kernel, by decide +kernel⟩, by decide, by decide +kernel, fun e => absurd e (by decide), fun e => absurd e (by decide)⟩
set_option maxRecDepth 100000 in
theorem am_ok_98_0 : am_okR 98 0 9 = true := by decide +kernel
theorem am_ok_98 : am_okM 98 := am_chk (lo := 0) (n := 9) (am_ch0) am_ok_98_0
theorem am_mk_98 : am_mok 98 := ⟨am_sub_in 3 _ (List.mem_of_getElem? (i := 72) rfl), am_sub_in 3 _ (List.mem_of_getElem? (i := 70) rfl), fun _ => am_sub_in 3 _ (List.mem_of_getElem? (i := 71) rfl), fun _ => ⟨rfl, by decide⟩, fun e => absurd e (by decide), am_sub_in 0 _ (List.mem_of_getElem? (i := 17) rfl), ⟨by decide +kernel, by decide +kernel, by decide +kernel⟩, by decide, by decide +kernel, fun e => absurd e (by decide), fun e => absurd e (by decide)⟩
set_option maxRecDepth 100000 in
theorem am_ok_99_0 : am_okR 99 0 5 = true := by decide +kernel
theorem am_ok_99 : am_okM 99 := am_chk (lo := 0) (n := 5) (am_ch0) am_ok_99_0
theorem am_mk_99 : am_mok 99 := ⟨am_sub_in 3 _ (List.mem_of_getElem? (i := 92) rfl), am_sub_in 3 _ (List.mem_of_getElem? (i := 91) rfl), fun e => absurd e (by decide), fun e => absurd e (by decide), fun e => absurd e (by decide), am_sub_in 0 _ (List.mem_of_getElem? (i := 17) rfl), ⟨by decide +kernel, by decide +kernel, by decide +kernel⟩, by decide, by decide +kernel, fun e => absurd e (by decide), fun e => absurd e (by decide)⟩
set_option maxRecDepth 100000 in
theorem am_ok_100_0 : am_okR 100 0 15 = true := by decide +kernel
theorem am_ok_100 : am_okM 100 := am_chk (lo := 0) (n := 15) (am_ch0) am_ok_100_0
theorem am_mk_100 : am_mok 100 := ⟨am_sub_in 0 _ (List.mem_of_getElem? (i := 158) rfl), am_sub_in 0 _ (List.mem_of_getElem? (i := 157) rfl), fun e => absurd e (by decide), fun e => absurd e (by decide), fun e => absurd e (by decide), am_sub_in 0 _ (List.mem_of_getElem? (i := 6) rfl), ⟨by decide +kernel, by decide +kernel, by decide +kernel⟩, by decide, by decide +kernel, fun e => absurd e (by decide), fun e => absurd e (by decide)⟩
set_option maxRecDepth 100000 in
theorem am_ok_101_0 : am_okR 101 0 17 = true := by decide +kernel
theorem am_ok_101 : am_okM 101 := am_chk (lo := 0) (n := 17) (am_ch0) am_ok_101_0
theorem am_mk_101 : am_mok 101 := ⟨am_sub_in 0 _ (List.mem_of_getElem? (i := 231) rfl), am_sub_in 0 _ (List.mem_of_getElem? (i := 230) rfl), fun e => absurd e (by decide), fun e => absurd e (by decide), fun e => absurd e (by decide), am_sub_in 0 _ (List.mem_of_getElem? (i := 6) rfl), ⟨by decide +kernel, by decide +kernel, by decide +kernel⟩, by decide, by decide +kernel, fun e => absurd e (by decide), fun e => absurd e (by decide)⟩
set_option maxRecDepth 100000 in
theorem am_ok_102_0 : am_okR 102 0 37 = true := by decide +kernel
theorem am_ok_102 : am_okM 102 := am_chk (lo := 0) (n := 37) (am_ch0) am_ok_102_0
theorem am_mk_102 : am_mok 102 := ⟨am_sub_in 0 _ (List.mem_of_getElem? (i := 228) rfl), am_sub_in 0 _ (List.mem_of_getElem? (i := 227) rfl), fun e => absurd e (by decide), fun e => absurd e (by decide), fun e => absurd e (by decide), am_sub_in 0 _ (List.mem_of_getElem? (i := 6) rfl), ⟨by decide +kernel, by decide +kernel, by decide +kernel⟩, by decide, by decide +kernel, fun e => absurd e (by decide), fun e => absurd e (by decide)⟩
set_option maxRecDepth 100000 in
theorem am_ok_103_0 : am_okR 103 0 33 = true := by decide +kernel
theorem am_ok_103 : am_okM 103 := am_chk (lo := 0) (n := 33) (am_ch0) am_ok_103_0
theorem am_mk_103 : am_mok 103 := ⟨am_sub_in 1 _ (List.mem_of_getElem? (i := 0) rfl), am_sub_in 0 _ (List.mem_of_getElem? (i := 239) rfl), fun e => absurd e (by decide), fun e => absurd e (by decide), fun e => absurd e (by decide), am_sub_in 0 _ (List.mem_of_getElem? (i := 6) rfl), ⟨by decide +kernel, by decide +kernel, by decide +kernel⟩, by decide, by decide +kernel, fun e => absurd e (by decide), fun e => absurd e (by decide)⟩
set_option maxRecDepth 100000 in
theorem am_ok_104_0 : am_okR 104 0 33 = true := by decide +kernel
theorem am_ok_104 : am_okM 104 := am_chk (lo := 0) (n := 33) (am_ch0) am_ok_104_0
theorem am_mk_104 : am_mok 104 := ⟨am_sub_in 2 _ (List.mem_of_getElem? (i := 223) rfl), am_sub_in 2 _ (List.mem_of_getElem? (i := 222) rfl), fun e => absurd e (by decide), fun e => absurd e (by decide), fun e => absurd e (by decide), am_sub_in 0 _ (List.mem_of_getElem? (i := 19) rfl), ⟨by decide +kernel, by decide +kernel, by decide +kernel⟩, by decide, by decide +kernel, fun e => absurd e (by decide), fun e => absurd e (by decide)⟩
set_option maxRecDepth 100000 in
theorem am_ok_105_0 : am_okR 105 0 38 = true := by decide +kernel
theorem am_ok_105 : am_okM 105 := am_chk (lo := 0) (n := 38) (am_ch0) am_ok_105_0
theorem am_mk_105 : am_mok 105 := ⟨am_sub_in 3 _ (List.mem_of_getElem? (i := 104) rfl), am_sub_in 3 _ (List.mem_of_getElem? (i := 103) rfl), fun e => absurd e (by decide), fun e => absurd e (by decide), fun e => absurd e (by decide), am_sub_in 0 _ (List.mem_of_getElem? (i := 19) rfl), ⟨by decide +kernel, by decide +kernel, by decide +kernel⟩, by decide, by decide +kernel, fun e => absurd e (by decide), fun e => absurd e (by decide)⟩
set_option maxRecDepth 100000 in
theorem am_ok_106_0 : am_okR 106 0 25 = true := by decide +kernel
theorem am_ok_106 : am_okM 106 := am_chk (lo := 0) (n := 25) (am_ch0) am_ok_106_0
theorem am_mk_106 : am_mok 106 := ⟨am_sub_in 3 _ (List.mem_of_getElem? (i := 98) rfl), am_sub_in 3 _ (List.mem_of_getElem? (i := 97) rfl), fun e => absurd e (by decide), fun e => absurd e (by decide), fun e => absurd e (by decide), am_sub_in 0 _ (List.mem_of_getElem? (i := 19) rfl), ⟨by decide +kernel, by decide +kernel, by decide +kernel⟩, by decide, by decide +kernel, fun e => absurd e (by decide), fun e => absurd e (by decide)⟩
set_option maxRecDepth 100000 in
theorem am_ok_107_0 : am_okR 107 0 33 = true := by decide +kernel
theorem am_ok_107 : am_okM 107 := am_chk (lo := 0) (n := 33) (am_ch0) am_ok_107_0
theorem am_mk_107 : am_mok 107 := ⟨am_sub_in 3 _ (List.mem_of_getElem? (i := 101) rfl), am_sub_in 3 _ (List.mem_of_getElem? (i := 100) rfl), fun e => absurd e (by decide), fun e => absurd e (by decide), fun e => absurd e (by decide), am_sub_in 0 _ (List.mem_of_getElem? (i := 19) rfl), ⟨by decide +kernel, by decide +kernel, by decide +kernel⟩, by decide, by decide +kernel, fun e => absurd e (by decide), fun e => absurd e (by decide)⟩
set_option maxRecDepth 100000 in
theorem am_ok_108_0 : am_okR 108 0 27 = true := by decide +kernel
theorem am_ok_108 : am_okM 108 := am_chk (lo := 0) (n := 27) (am_ch0) am_ok_108_0
theorem am_mk_108 : am_mok 108 := ⟨am_sub_in 2 _ (List.mem_of_getElem? (i := 214) rfl), am_sub_in 2 _ (List.mem_of_getElem? (i := 213) rfl), fun e => absurd e (by decide), fun e => absurd e (by decide), fun e => absurd e (by decide), am_sub_in 0 _ (List.mem_of_getElem? (i := 18) rfl), ⟨by decide +kernel, by decide +kernel, by decide +kernel⟩, by decide, by decide +kernel, fun e => absurd e (by decide), fun e => absurd e (by decide)⟩
set_option maxRecDepth 100000 in
theorem am_ok_109_0 : am_okR 109 0 14 = true := by decide +kernel
theorem am_ok_109 : am_okM 109 := am_chk (lo := 0) (n := 14) (am_ch0) am_ok_109_0
theorem am_mk_109 : am_mok 109 := ⟨am_sub_in 2 _ (List.mem_of_getElem? (i := 78) rfl), am_sub_in 2 _ (List.mem_of_getElem? (i := 77) rfl), fun e => absurd e (by decide), fun e => absurd e (by decide), fun e => absurd e (by decide), am_sub_in 0 _ (List.mem_of_getElem? (i := 0) rfl), ⟨by decide +kernel, by decide +kernel, by decide +kernel⟩, by decide, by decide +kernel, fun e => absurd e (by decide), fun e => absurd e (by decide)⟩
set_option maxRecDepth 100000 in
theorem am_ok_110_0 : am_okR 110 0 32 = true := by decide +kernel
theorem am_ok_110 : am_okM 110 := am_chk (lo := 0) (n := 32) (am_ch0) am_ok_110_0
theorem am_mk_110 : am_mok 110 := ⟨am_sub_in 3 _ (List.mem_of_getElem? (i := 128) rfl), am_sub_in 3 _ (List.mem_of_getElem? (i := 127) rfl), fun e => absurd e (by decide), fun e => absurd e (by decide), fun e => absurd e (by decide), am_sub_in 0 _ (List.mem_of_getElem? (i := 0) rfl), ⟨by decide +kernel, by decide +kernel, by decide +kernel⟩, by decide, by decide +kernel, fun e => absurd e (by decide), fun e => absurd e (by decide)⟩
set_option maxRecDepth 100000 in
theorem am_ok_111_0 : am_okR 111 0 100 = true := by decide +kernel
set_option maxRecDepth 100000 in
theorem am_ok_111_1 : am_okR 111 100 86 = true := by decide +kernel
theorem am_ok_111 : am_okM 111 := am_chk (lo := 100) (n := 86) (am_chk (lo := 0) (n := 100) (am_ch0) am_ok_111_0) am_ok_111_1
theorem am_mk_111 : am_mok 111 := ⟨am_sub_in 2 _ (List.mem_of_getElem? (i := 81) rfl), am_sub_in 2 _ (List.mem_of_getElem? (i := 80) rfl), fun e => absurd e (by decide), fun e => absurd e (by decide), fun e => absurd e (by decide), am_sub_in 0 _ (List.mem_of_getElem? (i := 0) rfl), ⟨by decide +kernel, by decide +kernel, by decide +kernel⟩, by decide, by decide +kernel, fun e => absurd e (by decide), fun e => absurd e (by decide)⟩
set_option maxRecDepth 100000 in
theorem am_ok_112_0 : am_okR 112 0 18 = true := by decide +kernel
theorem am_ok_112 : am_okM 112 := am_chk (lo := 0) (n := 18) (am_ch0) am_ok_112_0
theorem am_mk_112 : am_mok 112 := ⟨am_sub_in 2 _ (List.mem_of_getElem? (i := 161) rfl), am_sub_in 2 _ (List.mem_of_getElem? (i := 160) rfl), fun e => absurd e (by decide), fun e => absurd e (by decide), fun e => absurd e (by decide), am_sub_in 0 _ (List.mem_of_getElem? (i := 0) rfl), ⟨by decide +kernel, by decide +kernel, by decide +kernel⟩, by decide, by decide +kernel, fun e => absurd e (by decide), fun e => absurd e (by decide)⟩
set_option maxRecDepth 100000 in
theorem am_ok_113_0 : am_okR 113 0 10 = true := by decide +kernel
theorem am_ok_113 : am_okM 113 := am_chk (lo := 0) (n := 10) (am_ch0) am_ok_113_0
theorem am_mk_113 : am_mok 113 := ⟨am_sub_in 2 _ (List.mem_of_getElem? (i := 84) rfl), am_sub_in 2 _ (List.mem_of_getElem? (i := 83) rfl), fun e => absurd e (by decide), fun e => absurd e (by decide), fun e => absurd e (by decide), am_sub_in 0 _ (List.mem_of_getElem? (i := 0) rfl), ⟨by decide +kernel, by decide +kernel, by decide +kernel⟩, by decide, by decide +kernel, fun e => absurd e (by decide), fun e => absurd e (by decide)⟩
set_option maxRecDepth 100000 in
theorem am_ok_114_0 : am_okR 114 0 14 = true := by decide +kernel
theorem am_ok_114 : am_okM 114 := am_chk (lo := 0) (n := 14) (am_ch0) am_ok_114_0
theorem am_mk_114 : am_mok 114 := ⟨am_sub_in 2 _ (List.mem_of_getElem? (i := 127) rfl), am_sub_in 2 _ (List.mem_of_getElem? (i := 126) rfl), fun e => absurd e (by decide), fun e => absurd e (by decide), fun e => absurd e (by decide), am_sub_in 0 _ (List.mem_of_getElem? (i := 0) rfl), ⟨by decide +kernel, by decide +kernel, by decide +kernel⟩, by decide, by decide +kernel, fun e => absurd e (by decide), fun e => absurd e (by decide)⟩
set_option maxRecDepth 100000 in
theorem am_ok_115_0 : am_okR 115 0 14 = true := by decide +kernel
theorem am_ok_115 : am_okM 115 := am_chk (lo := 0) (n := 14) (am_ch0) am_ok_115_0
theorem am_mk_115 : am_mok 115 := ⟨am_sub_in 2 _ (List.mem_of_getElem? (i := 87) rfl), am_sub_in 2 _ (List.mem_of_getElem? (i := 86) rfl), fun e => absurd e (by decide), fun e => absurd e (by decide), fun e => absurd e (by decide), am_sub_in 0 _ (List.mem_of_getElem? (i := 0) rfl), ⟨by decide +kernel, by decide +kernel, by decide +kernel⟩, by decide, by decide +kernel, fun e => absurd e (by decide), fun e => absurd e (by decide)⟩
set_option maxRecDepth 100000 in
theorem am_ok_116_0 : am_okR 116 0 16 = true := by decide +kernel
theorem am_ok_116 : am_okM 116 := am_chk (lo := 0) (n := 16) (am_ch0) am_ok_116_0
theorem am_mk_116 : am_mok 116 := ⟨am_sub_in 2 _ (List.mem_of_getElem? (i := 90) rfl), am_sub_in 2 _ (List.mem_of_getElem? (i := 89) rfl), fun e => absurd e (by decide), fun e => absurd e (by decide), fun e => absurd e (by decide), am_sub_in 0 _ (List.mem_of_getElem? (i := 0) rfl), ⟨by decide +kernel, by decide +kernel, by decide +kernel⟩, by decide, by decide +kernel, fun e => absurd e (by decide), fun e => absurd e (by decide)⟩
set_option maxRecDepth 100000 in
theorem am_ok_117_0 : am_okR 117 0 17 = true := by decide +kernel
theorem am_ok_117 : am_okM 117 := am_chk (lo := 0) (n := 17) (am_ch0) am_ok_117_0
theorem am_mk_117 : am_mok 117 := ⟨am_sub_in 2 _ (List.mem_of_getElem? (i := 93) rfl), am_sub_in 2 _ (List.mem_of_getElem? (i := 92) rfl), fun e => absurd e (by decide), fun e => absurd e (by decide), fun e => absurd e (by decide), am_sub_in 0 _ (List.mem_of_getElem? (i := 0) rfl), ⟨by decide +kernel, by decide +kernel, by decide +kernel⟩, by decide, by decide +kernel, fun e => absurd e (by decide), fun e => absurd e (by decide)⟩
set_option maxRecDepth 100000 in
theorem am_ok_118_0 : am_okR 118 0 15 = true := by decide +kernel
theorem am_ok_118 : am_okM 118 := am_chk (lo := 0) (n := 15) (am_ch0) am_ok_118_0
theorem am_mk_118 : am_mok 118 := ⟨am_sub_in 2 _ (List.mem_of_getElem? (i := 130) rfl), am_sub_in 2 _ (List.mem_of_getElem? (i := 129) rfl), fun e => absurd e (by decide), fun e => absurd e (by decide), fun e => absurd e (by decide), am_sub_in 0 _ (List.mem_of_getElem? (i := 0) rfl), ⟨by decide +kernel, by decide +kernel, by decide +kernel⟩, by decide, by decide +kernel, fun e => absurd e (by decide), fun e => absurd e (by decide)⟩
set_option maxRecDepth 100000 in
theorem am_ok_119_0 : am_okR 119 0 14 = true := by decide +kernel
theorem am_ok_119 : am_okM 119 := am_chk (lo := 0) (n := 14) (am_ch0) am_ok_119_0
theorem am_mk_119 : am_mok 119 := ⟨am_sub_in 2 _ (List.mem_of_getElem? (i := 133) rfl), am_sub_in 2 _ (List.mem_of_getElem? (i := 132) rfl), fun e => absurd e (by decide), fun e => absurd e (by decide), fun e => absurd e (by decide), am_sub_in 0 _ (List.mem_of_getElem? (i := 0) rfl), ⟨by decide +kernel, by decide +kernel, by decide +kernel⟩, by decide, by decide +kernel, fun e => absurd e (by decide), fun e => absurd e (by decide)⟩
set_option maxRecDepth 100000 in
theorem am_ok_120_0 : am_okR 120 0 45 = true := by decide +kernel
theorem am_ok_120 : am_okM 120 := am_chk (lo := 0) (n := 45) (am_ch0) am_ok_120_0
theorem am_mk_120 : am_mok 120 := ⟨am_sub_in 2 _ (List.mem_of_getElem? (i := 136) rfl), am_sub_in 2 _ (List.mem_of_getElem? (i := 135) rfl), fun e => absurd e (by decide), fun e => absurd e (by decide), fun e => absurd e (by decide), am_sub_in 0 _ (List.mem_of_getElem? (i := 0) rfl), ⟨by decide +kernel, by decide +kernel, by decide +kernel⟩, by decide, by decide +kernel, fun e => absurd e (by decide), fun e => absurd e (by decide)⟩
set_option maxRecDepth 100000 in
theorem am_ok_121_0 : am_okR 121 0 24 = true := by decide +kernel
theorem am_ok_121 : am_okM 121 := am_chk (lo := 0) (n := 24) (am_ch0) am_ok_121_0
theorem am_mk_121 : am_mok 121 := ⟨am_sub_in 2 _ (List.mem_of_getElem? (i := 158) rfl), am_sub_in 2 _ (List.mem_of_getElem? (i := 157) rfl), fun e => absurd e (by decide), fun e => absurd e (by decide), fun e => absurd e (by decide), am_sub_in 0 _ (List.mem_of_getElem? (i := 0) rfl), ⟨by decide +kernel, by decide +kernel, by decide +kernel⟩, by decide, by decide +kernel, fun e => absurd e (by decide), fun e => absurd e (by decide)⟩
set_option maxRecDepth 100000 in
theorem am_ok_122_0 : am_okR 122 0 10 = true := by decide +kernel
theorem am_ok_122 : am_okM 122 := am_chk (lo := 0) (n := 10) (am_ch0) am_ok_122_0
theorem am_mk_122 : am_mok 122 := ⟨am_sub_in 3 _ (List.mem_of_getElem? (i := 157) rfl), am_sub_in 3 _ (List.mem_of_getElem? (i := 156) rfl), fun e => absurd e (by decide), fun e => absurd e (by decide), fun e => absurd e (by decide), am_sub_in 0 _ (List.mem_of_getElem? (i := 0) rfl), ⟨by decide +kernel, by decide +kernel, by decide +kernel⟩, by decide, by decide +kernel, fun e => absurd e (by decide), fun e => absurd e (by decide)⟩
set_option maxRecDepth 100000 in
theorem am_ok_123_0 : am_okR 123 0 49 = true := by decide +kernel
theorem am_ok_123 : am_okM 123 := am_chk (lo := 0) (n := 49) (am_ch0) am_ok_123_0
theorem am_mk_123 : am_mok 123 := ⟨am_sub_in 3 _ (List.mem_of_getElem? (i := 153) rfl), am_sub_in 3 _ (List.mem_of_getElem? (i := 152) rfl), fun e => absurd e (by decide), fun e => absurd e (by decide), fun e => absurd e (by decide), am_sub_in 0 _ (List.mem_of_getElem? (i := 0) rfl), ⟨by decide +kernel, by decide +kernel, by decide +kernel⟩, by decide, by decide +kernel, fun e => absurd e (by decide), fun e => absurd e (by decide)⟩
set_option maxRecDepth 100000 in
theorem am_ok_124_0 : am_okR 124 0 100 = true := by decide +kernel
set_option maxRecDepth 100000 in
theorem am_ok_124_1 : am_okR 124 100 27 = true := by decide +kernel
theorem am_ok_124 : am_okM 124 := am_chk (lo := 100) (n := 27) (am_chk (lo := 0) (n := 100) (am_ch0) am_ok_124_0) am_ok_124_1
theorem am_mk_124 : am_mok 124 := ⟨am_sub_in 3 _ (List.mem_of_getElem? (i := 162) rfl), am_sub_in 3 _ (List.mem_of_getElem? (i := 161) rfl), fun e => absurd e (by decide), fun e => absurd e (by decide), fun e => absurd e (by decide), am_sub_in 0 _ (List.mem_of_getElem? (i := 0) rfl), ⟨by decide +kernel, by decide +kernel, by decide +kernel⟩, by decide, by decide +kernel, fun e => absurd e (by decide), fun e => absurd e (by decide)⟩
end
section
/-! ===== the tables hold, method by method (kernel): 125 to 128 ===== -/
set_option maxRecDepth 100000 in
theorem am_ok_125_0 : am_okR 125 0 100 = true := by decide +kernel
set_option maxRecDepth 100000 in
theorem am_ok_125_1 : am_okR 125 100 46 = true := by decide +kernel
theorem am_ok_125 : am_okM 125 := am_chk (lo := 100) (n := 46) (am_chk (lo := 0) (n := 100) (am_ch0) am_ok_125_0) am_ok_125_1
theorem am_mk_125 : am_mok 125 := ⟨am_sub_in 3 _ (List.mem_of_getElem? (i := 168) rfl), am_sub_in 3 _ (List.mem_of_getElem? (i := 167) rfl), fun e => absurd e (by decide), fun e => absurd e (by decide), fun e => absurd e (by decide), am_sub_in 0 _ (List.mem_of_getElem? (i := 0) rfl), ⟨by decide +kernel, by decide +kernel, by decide +kernel⟩, by decide, by decide +kernel, fun e => absurd e (by decide), fun e => absurd e (by decide)⟩
set_option maxRecDepth 100000 in
theorem am_ok_126_0 : am_okR 126 0 67 = true := by decide +kernel
theorem am_ok_126 : am_okM 126 := am_chk (lo := 0) (n := 67) (am_ch0) am_ok_126_0
theorem am_mk_126 : am_mok 126 := ⟨am_sub_in 3 _ (List.mem_of_getElem? (i := 165) rfl), am_sub_in 3 _ (List.mem_of_getElem? (i := 164) rfl), fun e => absurd e (by decide), fun e => absurd e (by decide), fun e => absurd e (by decide), am_sub_in 0 _ (List.mem_of_getElem? (i := 0) rfl), ⟨by decide +kernel, by decide +kernel, by decide +kernel⟩, by decide, by decide +kernel, fun e => absurd e (by decide), fun e => absurd e (by decide)⟩
set_option maxRecDepth 100000 in
theorem am_ok_127_0 : am_okR 127 0 27 = true := by decide +kernel
theorem am_ok_127 : am_okM 127 := am_chk (lo := 0) (n := 27) (am_ch0) am_ok_127_0
theorem am_mk_127 : am_mok 127 := ⟨am_sub_in 3 _ (List.mem_of_getElem? (i := 173) rfl), am_sub_in 3 _ (List.mem_of_getElem? (i := 172) rfl), fun e => absurd e (by decide), fun e => absurd e (by decide), fun e => absurd e (by decide), am_sub_in 0 _ (List.mem_of_getElem? (i := 0) rfl), ⟨by decide +kernel, by decide +kernel, by decide +kernel⟩, by decide, by decide +kernel, fun e => absurd e (by decide), fun e => absurd e (by decide)⟩
set_option maxRecDepth 100000 in
theorem am_ok_128_0 : am_okR 128 0 81 = true := by decide +kernel
theorem am_ok_128 : am_okM 128 := am_chk (lo := 0) (n := 81) (am_ch0) am_ok_128_0
theorem am_mk_128 : am_mok 128 := ⟨am_sub_in 3 _ (List.mem_of_getElem? (i := 176) rfl), am_sub_in 3 _ (List.mem_of_getElem? (i := 175) rfl), fun e => absurd e (by decide), fun e => absurd e (by decide), fun e => absurd e (by decide), am_sub_in 0 _ (List.mem_of_getElem? (i := 0) rfl), ⟨by decide +kernel, by decide +kernel, by decide +kernel⟩, by decide, by decide +kernel, fun e => absurd e (by decide), fun e => absurd e (by decide)⟩
end
section
/-! ===== the law's table holds ===== -/
set_option maxRecDepth 100000 in
theorem am_ok_129_0 : am_okR 129 0 100 = true := by decide +kernel
set_option maxRecDepth 100000 in
theorem am_ok_129_1 : am_okR 129 100 100 = true := by decide +kernel
set_option maxRecDepth 100000 in
theorem am_ok_129_2 : am_okR 129 200 100 = true := by decide +kernel
set_option maxRecDepth 100000 in
theorem am_ok_129_3 : am_okR 129 300 100 = true := by decide +kernel
set_option maxRecDepth 100000 in
theorem am_ok_129_4 : am_okR 129 400 100 = true := by decide +kernel
set_option maxRecDepth 100000 in
theorem am_ok_129_5 : am_okR 129 500 100 = true := by decide +kernel
set_option maxRecDepth 100000 in
theorem am_ok_129_6 : am_okR 129 600 100 = true := by decide +kernel
set_option maxRecDepth 100000 in
theorem am_ok_129_7 : am_okR 129 700 100 = true := by decide +kernel
set_option maxRecDepth 100000 in
theorem am_ok_129_8 : am_okR 129 800 100 = true := by decide +kernel
set_option maxRecDepth 100000 in
theorem am_ok_129_9 : am_okR 129 900 3 = true := by decide +kernel
theorem am_ok_129 : am_okM 129 := am_chk (lo := 900) (n := 3) (am_chk (lo := 800) (n := 100) (am_chk (lo := 700) (n := 100) (am_chk (lo := 600) (n := 100) (am_chk (lo := 500) (n := 100) (am_chk (lo := 400) (n := 100) (am_chk (lo := 300) (n := 100) (am_chk (lo := 200) (n := 100) (am_chk (lo := 100) (n := 100) (am_chk (lo := 0) (n := 100) (am_ch0) am_ok_129_0) am_ok_129_1) am_ok_129_2) am_ok_129_3) am_ok_129_4) am_ok_129_5) am_ok_129_6) am_ok_129_7) am_ok_129_8) am_ok_129_9
end
section
/-! ===== all tables hold ===== -/
theorem am_okc_32 : ∀ y, y < 32 → am_okM y := lt_s (lt_s (lt_s (lt_s (lt_s (lt_s (lt_s (lt_s (lt_s (lt_s (lt_s (lt_s (lt_s (lt_s (lt_s (lt_s (lt_s (lt_s (lt_s (lt_s (lt_s (lt_s (lt_s (lt_s (lt_s (lt_s (lt_s (lt_s (lt_s (lt_s (lt_s (lt_s (lt_0) am_ok_0) am_ok_1) am_ok_2) am_ok_3) am_ok_4) am_ok_5) am_ok_6) am_ok_7) am_ok_8) am_ok_9) am_ok_10) am_ok_11) am_ok_12) am_ok_13) am_ok_14) am_ok_15) am_ok_16) am_ok_17) am_ok_18) am_ok_19) am_ok_20) am_ok_21) am_ok_22) am_ok_23) am_ok_24) am_ok_25) am_ok_26) am_ok_27) am_ok_28) am_ok_29) am_ok_30) am_ok_31
theorem am_okc_64 : ∀ y, y < 64 → am_okM y := lt_s (lt_s (lt_s (lt_s (lt_s (lt_s (lt_s (lt_s (lt_s (lt_s (lt_s (lt_s (lt_s (lt_s (lt_s (lt_s (lt_s (lt_s (lt_s (lt_s (lt_s (lt_s (lt_s (lt_s (lt_s (lt_s (lt_s (lt_s (lt_s (lt_s (lt_s (lt_s (am_okc_32) am_ok_32) am_ok_33) am_ok_34) am_ok_35) am_ok_36) am_ok_37) am_ok_38) am_ok_39) am_ok_40) am_ok_41) am_ok_42) am_ok_43) am_ok_44) am_ok_45) am_ok_46) am_ok_47) am_ok_48) am_ok_49) am_ok_50) am_ok_51) am_ok_52) am_ok_53) am_ok_54) am_ok_55) am_ok_56) am_ok_57) am_ok_58) am_ok_59) am_ok_60) am_ok_61) am_ok_62) am_ok_63
theorem am_okc_96 : ∀ y, y < 96 → am_okM y := lt_s (lt_s (lt_s (lt_s (lt_s (lt_s (lt_s (lt_s (lt_s (lt_s (lt_s (lt_s (lt_s (lt_s (lt_s (lt_s (lt_s (lt_s (lt_s (lt_s (lt_s (lt_s (lt_s (lt_s (lt_s (lt_s (lt_s (lt_s (lt_s (lt_s (lt_s (lt_s (am_okc_64) am_ok_64) am_ok_65) am_ok_66) am_ok_67) am_ok_68) am_ok_69) am_ok_70) am_ok_71) am_ok_72) am_ok_73) am_ok_74) am_ok_75) am_ok_76) am_ok_77) am_ok_78) am_ok_79) am_ok_80) am_ok_81) am_ok_82) am_ok_83) am_ok_84) am_ok_85) am_ok_86) am_ok_87) am_ok_88) am_ok_89) am_ok_90) am_ok_91) am_ok_92) am_ok_93) am_ok_94) am_ok_95
theorem am_okc_128 : ∀ y, y < 128 → am_okM y := lt_s (lt_s (lt_s (lt_s (lt_s (lt_s (lt_s (lt_s (lt_s (lt_s (lt_s (lt_s (lt_s (lt_s (lt_s (lt_s (lt_s (lt_s (lt_s (lt_s (lt_s (lt_s (lt_s (lt_s (lt_s (lt_s (lt_s (lt_s (lt_s (lt_s (lt_s (lt_s (am_okc_96) am_ok_96) am_ok_97) am_ok_98) am_ok_99) am_ok_100) am_ok_101) am_ok_102) am_ok_103) am_ok_104) am_ok_105) am_ok_106) am_ok_107) am_ok_108) am_ok_109) am_ok_110) am_ok_111) am_ok_112) am_ok_113) am_ok_114) am_ok_115) am_ok_116) am_ok_117) am_ok_118) am_ok_119) am_ok_120) am_ok_121) am_ok_122) am_ok_123) am_ok_124) am_ok_125) am_ok_126) am_ok_127
theorem am_okc_130 : ∀ y, y < 130 → am_okM y := lt_s (lt_s (am_okc_128) am_ok_128) am_ok_129
theorem am_mkc_32 : ∀ y, y < 32 → am_mok y := lt_s (lt_s (lt_s (lt_s (lt_s (lt_s (lt_s (lt_s (lt_s (lt_s (lt_s (lt_s (lt_s (lt_s (lt_s (lt_s (lt_s (lt_s (lt_s (lt_s (lt_s (lt_s (lt_s (lt_s (lt_s (lt_s (lt_s (lt_s (lt_s (lt_s (lt_s (lt_s (lt_0) am_mk_0) am_mk_1) am_mk_2) am_mk_3) am_mk_4) am_mk_5) am_mk_6) am_mk_7) am_mk_8) am_mk_9) am_mk_10) am_mk_11) am_mk_12) am_mk_13) am_mk_14) am_mk_15) am_mk_16) am_mk_17) am_mk_18) am_mk_19) am_mk_20) am_mk_21) am_mk_22) am_mk_23) am_mk_24) am_mk_25) am_mk_26) am_mk_27) am_mk_28) am_mk_29) am_mk_30) am_mk_31
theorem am_mkc_64 : ∀ y, y < 64 → am_mok y := lt_s (lt_s (lt_s (lt_s (lt_s (lt_s (lt_s (lt_s (lt_s (lt_s (lt_s (lt_s (lt_s (lt_s (lt_s (lt_s (lt_s (lt_s (lt_s (lt_s (lt_s (lt_s (lt_s (lt_s (lt_s (lt_s (lt_s (lt_s (lt_s (lt_s (lt_s (lt_s (am_mkc_32) am_mk_32) am_mk_33) am_mk_34) am_mk_35) am_mk_36) am_mk_37) am_mk_38) am_mk_39) am_mk_40) am_mk_41) am_mk_42) am_mk_43) am_mk_44) am_mk_45) am_mk_46) am_mk_47) am_mk_48) am_mk_49) am_mk_50) am_mk_51) am_mk_52) am_mk_53) am_mk_54) am_mk_55) am_mk_56) am_mk_57) am_mk_58) am_mk_59) am_mk_60) am_mk_61) am_mk_62) am_mk_63
theorem am_mkc_96 : ∀ y, y < 96 → am_mok y := lt_s (lt_s (lt_s (lt_s (lt_s (lt_s (lt_s (lt_s (lt_s (lt_s (lt_s (lt_s (lt_s (lt_s (lt_s (lt_s (lt_s (lt_s (lt_s (lt_s (lt_s (lt_s (lt_s (lt_s (lt_s (lt_s (lt_s (lt_s (lt_s (lt_s (lt_s (lt_s (am_mkc_64) am_mk_64) am_mk_65) am_mk_66) am_mk_67) am_mk_68) am_mk_69) am_mk_70) am_mk_71) am_mk_72) am_mk_73) am_mk_74) am_mk_75) am_mk_76) am_mk_77) am_mk_78) am_mk_79) am_mk_80) am_mk_81) am_mk_82) am_mk_83) am_mk_84) am_mk_85) am_mk_86) am_mk_87) am_mk_88) am_mk_89) am_mk_90) am_mk_91) am_mk_92) am_mk_93) am_mk_94) am_mk_95
theorem am_mkc_128 : ∀ y, y < 128 → am_mok y := lt_s (lt_s (lt_s (lt_s (lt_s (lt_s (lt_s (lt_s (lt_s (lt_s (lt_s (lt_s (lt_s (lt_s (lt_s (lt_s (lt_s (lt_s (lt_s (lt_s (lt_s (lt_s (lt_s (lt_s (lt_s (lt_s (lt_s (lt_s (lt_s (lt_s (lt_s (lt_s (am_mkc_96) am_mk_96) am_mk_97) am_mk_98) am_mk_99) am_mk_100) am_mk_101) am_mk_102) am_mk_103) am_mk_104) am_mk_105) am_mk_106) am_mk_107) am_mk_108) am_mk_109) am_mk_110) am_mk_111) am_mk_112) am_mk_113) am_mk_114) am_mk_115) am_mk_116) am_mk_117) am_mk_118) am_mk_119) am_mk_120) am_mk_121) am_mk_122) am_mk_123) am_mk_124) am_mk_125) am_mk_126) am_mk_127
theorem am_mkc_129 : ∀ y, y < 129 → am_mok y := lt_s (am_mkc_128) am_mk_128
theorem am_mok_all {y : Nat} (h : y < 129) : am_mok y := am_mkc_129 y h
theorem am_tb_ok {y pc : Nat} {e : am_I} (h : am_tb y pc = some e) : am_okB y pc e = true ∧ y < am_N := by
  have h9 := h
  unfold am_tb at h
  cases h1 : Nat.ble (am_cl y) pc with
  | true =>
    rw [h1] at h
    cases h
  | false =>
    cases h2 : Nat.ble am_N y with
    | true =>
      rw [h1, h2] at h
      cases h
    | false =>
      have e1 : pc < am_cl y := Nat.not_le.mp fun q => by rw [Nat.ble_eq.mpr q] at h1; cases h1
      have e2 : y < am_N := Nat.not_le.mp fun q => by rw [Nat.ble_eq.mpr q] at h2; cases h2
      have h3 := am_okc_130 y e2 pc e1
      unfold am_okp at h3
      rw [h9] at h3
      exact ⟨h3, e2⟩
end
section
/-! ===== one instruction of the abstract machine ===== -/
def am_br (c : Jvm.ClassFile.Cond) (x z : Int32) (T F : Prop) : Prop := match c with
  | .eq => (x = z → T) ∧ (¬ x = z → F)
  | .ne => (¬ x = z → T) ∧ (x = z → F)
  | .lt => (x < z → T) ∧ (¬ x < z → F)
  | .ge => (z ≤ x → T) ∧ (¬ z ≤ x → F)
  | .gt => (z < x → T) ∧ (¬ z < x → F)
  | .le => (x ≤ z → T) ∧ (¬ x ≤ z → F)
/-- a call: what comes of it, what goes on -/
def am_call (E : am_E) (mc ms : Nat) (P : am_S → Prop) (z : Nat) (as : List Value) (pc : Nat) (lv : am_L) (kf : Option (List Nat)) (rest : List Value) (h : am_H) (k n : Nat) : Prop :=
  am_b (Nat.ble (am_cat rest) 8 && Nat.ble h.length am_pX) (∃ (r : Option Value) (h1 : am_H) (mc1 ms1 : Nat), E z as h r h1 mc1 ms1 ∧ h.length ≤ h1.length ∧ k + mc1 ≤ mc ∧ n + ms1 ≤ ms ∧ (h1.length = h.length ∨ am_nh h.length h1.length lv rest [] = true) ∧ P (pc + 3, am_pick kf lv, r.toList ++ rest, h1, k + mc1, n + ms1))
/-- the String constants: lengths, bytes, the places of their arrays; DigitOnes' bytes -/
def am_ln : List Nat := [40, 8, 59, 16, 16, 23, 1]
def am_byt : List (List Int32) := [[116, 97, 107, 101, 115, 32, 48, 32, 59, 32, 115, 97, 119, 115, 32, 49, 48, 32, 43, 32, 115, 111, 114, 116, 32, 42, 32, 53, 32, 59, 32, 109, 105, 110, 100, 115, 32, 49, 32, 59], [40, 41, 59, 43, 45, 42, 60, 61], [116, 97, 107, 101, 115, 32, 115, 97, 119, 115, 32, 109, 105, 110, 100, 115, 32, 111, 114, 32, 97, 110, 100, 32, 110, 111, 116, 32, 109, 111, 114, 101, 32, 115, 111, 114, 116, 32, 104, 111, 117, 114, 32, 116, 104, 105, 110, 103, 32, 109, 97, 110, 121, 32, 107, 105, 110, 100, 32], [116, 97, 107, 101, 115, 32, 109, 111, 114, 101, 43, 115, 111, 114, 116, 42], [45, 107, 105, 110, 100, 59, 115, 97, 119, 115, 32, 109, 97, 110, 121, 42], [43, 116, 104, 105, 110, 103, 59, 109, 105, 110, 100, 115, 32, 104, 111, 117, 114, 43, 109, 111, 114, 101, 42], [59]]
def am_pV : Nat := am_pS + 1000
def am_ones (j : Nat) : Int32 := Int32.ofNat (48 + j % 10)
/-- what one instruction asks, and that P holds behind it -/
noncomputable def am_ex (E : am_E) (sc : Option (Nat × (Nat → Int32))) (y mc ms : Nat) (Φ : Option Value → am_H → Prop) (P : am_S → Prop) (i : Instr) (a b : Nat) (kf kt : Option (List Nat)) (tg : List (Nat × List Nat)) (pc : Nat) (lv : am_L) (st : List Value) (h : am_H) (k n : Nat) : Prop := match i with
  | .iconst x => P (pc + 1, am_pick kf lv, .int (Int32.ofInt x) :: st, h, k, n)
  | .bipush x => P (pc + 2, am_pick kf lv, .int (Int8.ofInt x).toInt32 :: st, h, k, n)
  | .sipush x => P (pc + 3, am_pick kf lv, .int (Int16.ofInt x).toInt32 :: st, h, k, n)
  | .lconst x => P (pc + 1, am_pick kf lv, .long (Int64.ofNat (x : Nat)) :: st, h, k, n)
  | .aconst_null => P (pc + 1, am_pick kf lv, .null :: st, h, k, n)
  | .iload x => am_oi (am_get lv x) (fun v => P (pc + 2, am_pick kf lv, .int v :: st, h, k, n))
  | .iload_n x => am_oi (am_get lv (x : Nat)) (fun v => P (pc + 1, am_pick kf lv, .int v :: st, h, k, n))
  | .lload x => am_ol (am_get lv x) (fun v => P (pc + 2, am_pick kf lv, .long v :: st, h, k, n))
  | .lload_n x => am_ol (am_get lv (x : Nat)) (fun v => P (pc + 1, am_pick kf lv, .long v :: st, h, k, n))
  | .aload x => am_oa (am_get lv x) (fun v => P (pc + 2, am_pick kf lv, .ref v :: st, h, k, n))
  | .aload_n x => am_oa (am_get lv (x : Nat)) (fun v => P (pc + 1, am_pick kf lv, .ref v :: st, h, k, n))
  | .istore x => am_i1 st (fun v r => am_b (Nat.ble (x + 1) (am_ml y)) (P (pc + 2, am_pick kf (am_set1 x (.int v) lv), r, h, k, n)))
  | .istore_n x => am_i1 st (fun v r => am_b (Nat.ble ((x : Nat) + 1) (am_ml y)) (P (pc + 1, am_pick kf (am_set1 (x : Nat) (.int v) lv), r, h, k, n)))
  | .astore x => am_r1 st (fun v r => am_b (Nat.ble (x + 1) (am_ml y)) (P (pc + 2, am_pick kf (am_set1 x (.ref v) lv), r, h, k, n)))
  | .astore_n x => am_r1 st (fun v r => am_b (Nat.ble ((x : Nat) + 1) (am_ml y)) (P (pc + 1, am_pick kf (am_set1 (x : Nat) (.ref v) lv), r, h, k, n)))
  | .lstore x => am_l1 st (fun v r => am_b (Nat.ble (x + 2) (am_ml y)) (P (pc + 2, am_pick kf (am_set2 x (.long v) lv), r, h, k, n)))
  | .lstore_n x => am_l1 st (fun v r => am_b (Nat.ble ((x : Nat) + 2) (am_ml y)) (P (pc + 1, am_pick kf (am_set2 (x : Nat) (.long v) lv), r, h, k, n)))
  | .iinc x z => am_oi (am_get lv x) (fun v => am_b (Nat.ble (x + 1) (am_ml y)) (P (pc + 3, am_pick kf (am_set1 x (.int (v + Int32.ofInt z)) lv), st, h, k, n)))
  | .iadd => am_i2 st (fun x z r => P (pc + 1, am_pick kf lv, .int (x + z) :: r, h, k, n))
  | .isub => am_i2 st (fun x z r => P (pc + 1, am_pick kf lv, .int (x - z) :: r, h, k, n))
  | .imul => am_i2 st (fun x z r => P (pc + 1, am_pick kf lv, .int (x * z) :: r, h, k, n))
  | .iand => am_i2 st (fun x z r => P (pc + 1, am_pick kf lv, .int (x &&& z) :: r, h, k, n))
  | .ior => am_i2 st (fun x z r => P (pc + 1, am_pick kf lv, .int (x ||| z) :: r, h, k, n))
  | .ixor => am_i2 st (fun x z r => P (pc + 1, am_pick kf lv, .int (x ^^^ z) :: r, h, k, n))
  | .ishl => am_i2 st (fun x z r => P (pc + 1, am_pick kf lv, .int (x <<< (z &&& 31)) :: r, h, k, n))
  | .ishr => am_i2 st (fun x z r => P (pc + 1, am_pick kf lv, .int (x >>> (z &&& 31)) :: r, h, k, n))
  | .iushr => am_i2 st (fun x z r => P (pc + 1, am_pick kf lv, .int ((x.toUInt32 >>> (z.toUInt32 &&& Int32.toUInt32 31)).toInt32) :: r, h, k, n))
  | .idiv => am_i2 st (fun x z r => ¬ z = 0 ∧ P (pc + 1, am_pick kf lv, .int (x / z) :: r, h, k, n))
  | .irem => am_i2 st (fun x z r => ¬ z = 0 ∧ P (pc + 1, am_pick kf lv, .int (x - x / z * z) :: r, h, k, n))
  | .ineg => am_i1 st (fun x r => P (pc + 1, am_pick kf lv, .int (-x) :: r, h, k, n))
  | .ladd => am_l2 st (fun x z r => P (pc + 1, am_pick kf lv, .long (x + z) :: r, h, k, n))
  | .lsub => am_l2 st (fun x z r => P (pc + 1, am_pick kf lv, .long (x - z) :: r, h, k, n))
  | .lmul => am_l2 st (fun x z r => P (pc + 1, am_pick kf lv, .long (x * z) :: r, h, k, n))
  | .land => am_l2 st (fun x z r => P (pc + 1, am_pick kf lv, .long (x &&& z) :: r, h, k, n))
  | .lor => am_l2 st (fun x z r => P (pc + 1, am_pick kf lv, .long (x ||| z) :: r, h, k, n))
  | .lxor => am_l2 st (fun x z r => P (pc + 1, am_pick kf lv, .long (x ^^^ z) :: r, h, k, n))
  | .lshl => am_i1 st (fun z r0 => am_l1 r0 (fun x r => P (pc + 1, am_pick kf lv, .long (x <<< (z.toInt64 &&& 63)) :: r, h, k, n)))
  | .lshr => am_i1 st (fun z r0 => am_l1 r0 (fun x r => P (pc + 1, am_pick kf lv, .long (x >>> (z.toInt64 &&& 63)) :: r, h, k, n)))
  | .lushr => am_i1 st (fun z r0 => am_l1 r0 (fun x r => P (pc + 1, am_pick kf lv, .long ((x.toUInt64 >>> (z.toInt64.toUInt64 &&& Int64.toUInt64 63)).toInt64) :: r, h, k, n)))
  | .ldiv => am_l2 st (fun x z r => ¬ z = 0 ∧ P (pc + 1, am_pick kf lv, .long (x / z) :: r, h, k, n))
  | .lrem => am_l2 st (fun x z r => ¬ z = 0 ∧ P (pc + 1, am_pick kf lv, .long (x - x / z * z) :: r, h, k, n))
  | .lcmp => am_l2 st (fun x z r => P (pc + 1, am_pick kf lv, .int (lg_cmp x z) :: r, h, k, n))
  | .i2l => am_i1 st (fun x r => P (pc + 1, am_pick kf lv, .long x.toInt64 :: r, h, k, n))
  | .l2i => am_l1 st (fun x r => P (pc + 1, am_pick kf lv, .int x.toInt32 :: r, h, k, n))
  | .i2b => am_i1 st (fun x r => P (pc + 1, am_pick kf lv, .int x.toInt8.toInt32 :: r, h, k, n))
  | .i2s => am_i1 st (fun x r => P (pc + 1, am_pick kf lv, .int x.toInt16.toInt32 :: r, h, k, n))
  | .i2c => am_i1 st (fun x r => P (pc + 1, am_pick kf lv, .int (x.toUInt32 % 65536).toInt32 :: r, h, k, n))
  | .dup => am_b (Nat.beq ((st.headD .null).category) 1) (am_ov st.head? (fun v => P (pc + 1, am_pick kf lv, v :: st, h, k, n)))
  | .dup2 => am_ov st.head? (fun v => am_ov st.tail.head? (fun w => am_b (Nat.beq v.category 1 && Nat.beq w.category 1) (P (pc + 1, am_pick kf lv, v :: w :: st, h, k, n))))
  | .pop => am_ov st.head? (fun v => am_b (Nat.beq v.category 1) (P (pc + 1, am_pick kf lv, st.tail, h, k, n)))
  | .goto _ => P (a, am_pick kt lv, st, h, k, n)
  | .ifCond c _ => am_i1 st (fun x r => am_br c x 0 (P (a, am_pick kt lv, r, h, k, n)) (P (pc + 3, am_pick kf lv, r, h, k, n)))
  | .if_icmp c _ => am_i2 st (fun x z r => am_br c x z (P (a, am_pick kt lv, r, h, k, n)) (P (pc + 3, am_pick kf lv, r, h, k, n)))
  | .ifnull _ => am_ov st.head? (fun v => match v with
    | .null => P (a, am_pick kt lv, st.tail, h, k, n)
    | .ref _ => P (pc + 3, am_pick kf lv, st.tail, h, k, n)
    | _ => False)
  | .ifnonnull _ => am_ov st.head? (fun v => match v with
    | .ref _ => P (a, am_pick kt lv, st.tail, h, k, n)
    | .null => P (pc + 3, am_pick kf lv, st.tail, h, k, n)
    | _ => False)
  | .tableswitch _ lo _ _ => am_i1 st (fun x r => match tg with
    | [] => False
    | d :: ts => am_sw x (fun t => P (t.1, am_pick (some t.2) lv, r, h, k, n)) d lo ts)
  | .lookupswitch _ ps => am_i1 st (fun x r => match tg with
    | [] => False
    | d :: ts => am_lw x (fun t => P (t.1, am_pick (some t.2) lv, r, h, k, n)) d ps.toList ts)
  | .getfield _ => am_r1 st (fun o r => match Nat.beq a 8 && Nat.ble am_pS o with
    | true => am_b (Nat.ble o (am_pS + 6) && Nat.ble h.length am_pX) (match b with
      | 0 => P (pc + 3, am_pick kf lv, .ref (o + 1000) :: r, h, k, n)
      | 1 => P (pc + 3, am_pick kf lv, .int 0 :: r, h, k, n)
      | _ => False)
    | false => am_obj h o (fun ci fs => am_b (Nat.beq ci a) (am_ov fs[b]? (fun v => P (pc + 3, am_pick kf lv, v :: r, h, k, n)))))
  | .putfield _ => am_ov st.head? (fun v => am_r1 st.tail (fun o r => am_obj h o (fun ci fs => am_b (Nat.beq ci a && Nat.ble (b + 1) fs.length) (narrow (am_ty a b) v = v ∧ fits (am_ty a b) v = true ∧ P (pc + 3, am_pick kf lv, r, h.set o (.inr (ci, fs.set b v)), k, n)))))
  | .getstatic _ => match a with
    | 0 => False
    | 2 => am_b (Nat.ble h.length am_pX) (P (pc + 3, am_pick kf lv, .ref (am_pX + 1) :: st, h, k, n))
    | _ => P (pc + 3, am_pick kf lv, .int 1 :: st, h, k, n)
  | .baload => am_i1 st (fun i r0 => am_r1 r0 (fun o r => match h[o]? with
    | none => (match Nat.ble am_pV o with
      | true => am_b (Nat.ble o (am_pV + 6) && Nat.ble h.length am_pX) (vp_in i (am_ln.getD (o - am_pV) 0) ∧ P (pc + 1, am_pick kf lv, .int ((am_byt.getD (o - am_pV) []).getD i.toNatClampNeg 0) :: r, h, k, n))
      | false => am_b (Nat.beq o (am_pX + 1) && Nat.ble h.length am_pX) (vp_in i 100 ∧ P (pc + 1, am_pick kf lv, .int (am_ones i.toNatClampNeg) :: r, h, k, n)))
    | some _ => am_arr h o (fun t a => am_b (Nat.beq t 4) (am_ai a (fun f => vp_in i a.1 ∧ P (pc + 1, am_pick kf lv, .int (f i.toNatClampNeg) :: r, h, k, n))))))
  | .iaload => am_i1 st (fun i r0 => am_r1 r0 (fun o r => match h[o]? with
    | none => (match Nat.beq o am_pL with
      | true => (match sc with
        | some w => am_b (Nat.ble h.length am_pX) (vp_in i w.1 ∧ P (pc + 1, am_pick kf lv, .int (w.2 i.toNatClampNeg) :: r, h, k, n))
        | none => False)
      | false => False)
    | some _ => am_arr h o (fun t a => am_b (Nat.beq t 0) (am_ai a (fun f => vp_in i a.1 ∧ P (pc + 1, am_pick kf lv, .int (f i.toNatClampNeg) :: r, h, k, n))))))
  | .laload => am_i1 st (fun i r0 => am_r1 r0 (fun o r => am_arr h o (fun t a => am_b (Nat.beq t 1) (am_al a (fun f => vp_in i a.1 ∧ P (pc + 1, am_pick kf lv, .long (f i.toNatClampNeg) :: r, h, k, n))))))
  | .aaload => am_i1 st (fun i r0 => am_r1 r0 (fun o r => am_arr h o (fun t a => am_b (Nat.beq t 2 || Nat.beq t 3) (am_aq a (fun f => vp_in i a.1 ∧ P (pc + 1, am_pick kf lv, va_rf (f i.toNatClampNeg) :: r, h, k, n))))))
  | .iastore => am_i1 st (fun x r1 => am_i1 r1 (fun i r0 => am_r1 r0 (fun o r => am_arr h o (fun t a => am_b (Nat.beq t 0) (am_ai a (fun f => vp_in i a.1 ∧ P (pc + 1, am_pick kf lv, r, h.set o (.inl (0, a.1, .inl (upd f i.toNatClampNeg x))), k, n)))))))
  | .bastore => am_i1 st (fun x r1 => am_i1 r1 (fun i r0 => am_r1 r0 (fun o r => am_arr h o (fun t a => am_b (Nat.beq t 4) (am_ai a (fun f => vp_in i a.1 ∧ P (pc + 1, am_pick kf lv, r, h.set o (.inl (4, a.1, .inl (upd f i.toNatClampNeg (vp_nar .byte x)))), k, n)))))))
  | .lastore => am_l1 st (fun x r1 => am_i1 r1 (fun i r0 => am_r1 r0 (fun o r => am_arr h o (fun t a => am_b (Nat.beq t 1) (am_al a (fun f => vp_in i a.1 ∧ P (pc + 1, am_pick kf lv, r, h.set o (.inl (1, a.1, .inr (.inl (vp_updL f i.toNatClampNeg x)))), k, n)))))))
  | .aastore => am_r1 st (fun w r1 => am_i1 r1 (fun i r0 => am_r1 r0 (fun o r => am_arr h o (fun t a => am_b (Nat.beq t 2) (am_aq a (fun f => am_obj h w (fun ci _ => am_b (Nat.beq ci 5) (vp_in i a.1 ∧ P (pc + 1, am_pick kf lv, r, h.set o (.inl (2, a.1, .inr (.inr (.inr (.inr (va_up f i.toNatClampNeg (some w))))))), k, n))))))))) 
  | .arraylength => am_r1 st (fun o r => match h[o]? with
    | none => (match Nat.ble am_pV o with
      | true => am_b (Nat.ble o (am_pV + 6) && Nat.ble h.length am_pX) (P (pc + 1, am_pick kf lv, .int (Int32.ofNat (am_ln.getD (o - am_pV) 0)) :: r, h, k, n))
      | false => (match sc with
        | some w => am_b (Nat.beq o am_pL && Nat.ble h.length am_pX) (P (pc + 1, am_pick kf lv, .int (Int32.ofNat w.1) :: r, h, k, n))
        | none => False))
    | some _ => am_arr h o (fun t a => am_b (Nat.ble t 4) (P (pc + 1, am_pick kf lv, .int (Int32.ofNat a.1) :: r, h, k, n))))
  | .new _ => am_b (am_nh h.length (h.length + 1) lv st h) (am_b (Nat.ble (k + 1) mc && Nat.ble (n + am_Nf a) ms) (P (pc + 3, am_pick kf lv, .ref h.length :: st, h ++ [.inr (a, am_dfl a)], k + 1, n + am_Nf a)))
  | .newarray t => am_i1 st (fun x r => am_b (am_nh h.length (h.length + 1) lv r h) (am_b (!decide (x < 0) && (Nat.ble x.toNatClampNeg 4096 && (Nat.ble (k + 1) mc && Nat.ble (n + x.toNatClampNeg) ms))) (match t with
    | .int => P (pc + 2, am_pick kf lv, .ref h.length :: r, h ++ [.inl (0, x.toNatClampNeg, .inl (fun _ => 0))], k + 1, n + x.toNatClampNeg)
    | .long => P (pc + 2, am_pick kf lv, .ref h.length :: r, h ++ [.inl (1, x.toNatClampNeg, .inr (.inl (fun _ => 0)))], k + 1, n + x.toNatClampNeg)
    | .byte => P (pc + 2, am_pick kf lv, .ref h.length :: r, h ++ [.inl (4, x.toNatClampNeg, .inl (fun _ => 0))], k + 1, n + x.toNatClampNeg)
    | _ => False)))
  | .anewarray _ => am_i1 st (fun x r => am_b (am_nh h.length (h.length + 1) lv r h) (am_b (!decide (x < 0) && (Nat.ble x.toNatClampNeg 4096 && (Nat.ble (k + 1) mc && Nat.ble (n + x.toNatClampNeg) ms))) (P (pc + 3, am_pick kf lv, .ref h.length :: r, h ++ [.inl (2, x.toNatClampNeg, .inr (.inr (.inr (.inr (fun _ => none)))))], k + 1, n + x.toNatClampNeg))))
  | .multianewarray _ _ => am_i2 st (fun w x r => am_b (am_nh h.length (h.length + 1 + w.toNatClampNeg) lv r h) (am_b (!decide (x < 0) && (!decide (w < 0) && (Nat.ble x.toNatClampNeg 4096 && (Nat.ble w.toNatClampNeg 64 && (Nat.ble (k + 1 + w.toNatClampNeg) mc && Nat.ble (n + w.toNatClampNeg + w.toNatClampNeg * x.toNatClampNeg) ms))))) (P (pc + 4, am_pick kf lv, .ref h.length :: r, (h ++ [.inl (3, w.toNatClampNeg, .inr (.inr (.inr (.inr (fun i => some (h.length + 1 + i))))))]) ++ List.replicate w.toNatClampNeg (.inl (0, x.toNatClampNeg, .inl (fun _ => 0))), k + 1 + w.toNatClampNeg, n + w.toNatClampNeg + w.toNatClampNeg * x.toNatClampNeg))))
  | .ldc _ => match b with
    | 0 => P (pc + 2, am_pick kf lv, .int (Int32.ofNat a) :: st, h, k, n)
    | 7 => am_b (Nat.ble h.length am_pX) (P (pc + 2, am_pick kf lv, .ref (am_pS + a) :: st, h, k, n))
    | _ => False
  | .ldc_w _ => am_b (Nat.beq b 0) (P (pc + 3, am_pick kf lv, .int (Int32.ofNat a) :: st, h, k, n))
  | .ldc2_w _ => match b with
    | 1 => P (pc + 3, am_pick kf lv, .long (Int64.ofNat a) :: st, h, k, n)
    | 2 => P (pc + 3, am_pick kf lv, .long (-(Int64.ofNat a)) :: st, h, k, n)
    | _ => False
  | .invokestatic _ => match Nat.ble 9000 a with
    | false => (match am_take (am_na a) [] st with
      | some (as, rest) => am_b (Nat.beq (am_kd a) 0) (am_call E mc ms P a as pc lv kf rest h k n)
      | none => False)
    | true => (match a with
      | 9001 => am_i2 st (fun x z r => am_b (Nat.ble (am_cat r) 8) (P (pc + 3, am_pick kf lv, .int (if x < z then z else x) :: r, h, k, n)))
      | 9002 => am_i2 st (fun x z r => am_b (Nat.ble (am_cat r) 8) (P (pc + 3, am_pick kf lv, .int (if z < x then z else x) :: r, h, k, n)))
      | 9003 => am_i1 st (fun w s1 => am_i1 s1 (fun dp s2 => am_r1 s2 (fun o s3 => am_i1 s3 (fun sp s4 => am_r1 s4 (fun o0 r => match h[o0]? with
        | none => am_b (Nat.ble am_pV o0 && (Nat.ble o0 (am_pV + 6) && Nat.ble h.length am_pX)) (am_arr h o (fun t1 a1 => am_b (Nat.beq t1 4 && Nat.ble (am_cat r) 8) (am_ai a1 (fun g => ¬ sp < 0 ∧ ¬ dp < 0 ∧ ¬ w < 0 ∧ sp.toNatClampNeg + w.toNatClampNeg ≤ am_ln.getD (o0 - am_pV) 0 ∧ dp.toNatClampNeg + w.toNatClampNeg ≤ a1.1 ∧ P (pc + 3, am_pick kf lv, r, h.set o (.inl (4, a1.1, .inl (va_cpy (fun j => (am_byt.getD (o0 - am_pV) []).getD j 0) g sp.toNatClampNeg dp.toNatClampNeg w.toNatClampNeg))), k, n)))))
        | some _ => am_arr h o0 (fun t0 a0 => am_arr h o (fun t1 a1 => am_b ((Nat.beq t0 0 || Nat.beq t0 4) && (Nat.beq t1 t0 && Nat.ble (am_cat r) 8)) (am_ai a0 (fun f => am_ai a1 (fun g => ¬ sp < 0 ∧ ¬ dp < 0 ∧ ¬ w < 0 ∧ sp.toNatClampNeg + w.toNatClampNeg ≤ a0.1 ∧ dp.toNatClampNeg + w.toNatClampNeg ≤ a1.1 ∧ (t0 = 4 → ∀ i, i < w.toNatClampNeg → fits .byte (.int (f (sp.toNatClampNeg + i))) = true) ∧ P (pc + 3, am_pick kf lv, r, h.set o (.inl (t0, a1.1, .inl (va_cpy f g sp.toNatClampNeg dp.toNatClampNeg w.toNatClampNeg))), k, n)))))))))))
      | 9004 => am_i2 st (fun x z r => am_b (Nat.ble (am_cat r) 8 && Nat.ble h.length am_pX) (¬ x < 0 ∧ x < z ∧ P (pc + 3, am_pick kf lv, r, h, k, n)))
      | _ => False)
  | .invokevirtual _ => match Nat.ble 9000 a with
    | false => (match am_take (am_na a) [] st with
      | some (as, .ref o :: rest) => (match Nat.beq (am_kd a) 1 with
        | true => (match Nat.beq (am_ci a) 8 && Nat.ble am_pS o with
          | true => am_b (Nat.ble o (am_pS + 6) && !(Nat.beq b 2)) (am_call E mc ms P a (.ref o :: as) pc lv kf rest h k n)
          | false => am_obj h o (fun ci _ => am_b (Nat.beq ci (am_ci a) && (Nat.ble (ci + 1) 9 && !(Nat.beq b 2))) (am_call E mc ms P a (.ref o :: as) pc lv kf rest h k n)))
        | false => am_obj h o (fun ci _ => am_b (Nat.beq ci 7 && (Nat.beq (am_kd a) 3 && Nat.beq b 0 || Nat.beq (am_kd a) 5 && Nat.beq b 2)) (am_call E mc ms P a (.ref o :: as) pc lv kf rest h k n)))
      | _ => False)
    | true => False
  | .invokespecial _ => match Nat.ble 9000 a with
    | false => (match am_take (am_na a) [] st with
      | some (as, .ref o :: rest) => (match Nat.beq (am_kd a) 2 with
        | true => am_call E mc ms P a (.ref o :: as) pc lv kf rest h k n
        | false => am_obj h o (fun ci _ => am_b (Nat.beq ci 7 && (Nat.beq (am_kd a) 4 && (Nat.beq b 0 && decide ((am_nm y).cls = "java/lang/StringBuilder")))) (am_call E mc ms P a (.ref o :: as) pc lv kf rest h k n)))
      | _ => False)
    | true => am_b (Nat.beq a 9999) (am_r1 st (fun _ r => am_b (Nat.ble (am_cat r) 8) (P (pc + 3, am_pick kf lv, r, h, k, n))))
  | .ireturn => match st with
    | [.int x] => (match am_ret y with
      | some t => narrow t (.int x) = .int x ∧ Φ (some (.int x)) h
      | none => False)
    | _ => False
  | .lreturn => match st with
    | [.long x] => am_b (decide (am_ret y = some .long)) (Φ (some (.long x)) h)
    | _ => False
  | .areturn => match st with
    | [.ref x] => (match am_ret y with
      | some (.object _) => Φ (some (.ref x)) h
      | some (.array _) => Φ (some (.ref x)) h
      | _ => False)
    | _ => False
  | .return_ => match st with
    | [] => am_b (decide (am_ret y = none)) (Φ none h)
    | _ => False
  | _ => False
noncomputable def am_step (E : am_E) (sc : Option (Nat × (Nat → Int32))) (y mc ms : Nat) (Φ : Option Value → am_H → Prop) (P : am_S → Prop) (c : am_S) : Prop := match am_tb y c.1 with
  | none => False
  | some e => am_ex E sc y mc ms Φ P e.1 e.2.1 e.2.2.1 e.2.2.2.2.1 e.2.2.2.2.2.1 e.2.2.2.2.2.2 c.1 c.2.1 c.2.2.1 c.2.2.2.1 c.2.2.2.2.1 c.2.2.2.2.2
/-- a method runs from c to its end: the least predicate that the instructions carry back -/
noncomputable def am_go (E : am_E) (sc : Option (Nat × (Nat → Int32))) (y mc ms : Nat) (Φ : Option Value → am_H → Prop) (c : am_S) : Prop := ∀ P : am_S → Prop, (∀ (c : am_S) (P1 : am_S → Prop), (∀ c1, P1 c1 → P c1) → am_step E sc y mc ms Φ P1 c → P c) → P c
/-- a run over a part of the heap is a run over the heap: the part's n cells stand behind lo others; what is new comes at the end -/
def am_ro (lo n off : Nat) (k : Nat) : Nat := bif Nat.ble am_pX k then k else bif Nat.ble n k then k + off else k + lo
def am_mv (r : Nat → Nat) (v : Value) : Value := match v with
  | .ref a => .ref (r a)
  | v => v
def am_mc (r : Nat → Nat) (c : am_C) : am_C := match c with
  | .inr o => .inr (o.1, o.2.map (am_mv r))
  | .inl (t, n, .inr (.inr (.inr (.inr f)))) => .inl (t, n, .inr (.inr (.inr (.inr (fun i => (f i).map r)))))
  | c => c
def am_fr (E : am_E) : am_E := fun z as h r h1 mc ms => ∃ (pre post h0 h2 : am_H) (as0 : List Value) (r0 : Option Value), E z as0 h0 r0 h2 mc ms ∧ h0.length ≤ h2.length ∧ h2.length + (pre.length + post.length) ≤ am_pX ∧ (h2.length = h0.length ∨ (pre ++ post).all (am_nc (pre.length + (h0.length + post.length)) (pre.length + (h2.length + post.length))) = true) ∧ as = as0.map (am_mv (am_ro pre.length h0.length (pre.length + post.length))) ∧ h = pre ++ (h0.map (am_mc (am_ro pre.length h0.length (pre.length + post.length))) ++ post) ∧ r = r0.map (am_mv (am_ro pre.length h0.length (pre.length + post.length))) ∧ h1 = pre ++ ((h2.take h0.length).map (am_mc (am_ro pre.length h0.length (pre.length + post.length))) ++ (post ++ (h2.drop h0.length).map (am_mc (am_ro pre.length h0.length (pre.length + post.length)))))
/-- a method, by how deep its calls go -/
noncomputable def am_run (sc : Option (Nat × (Nat → Int32))) : Nat → am_E
  | 0 => fun _ _ _ _ _ _ _ => False
  | d + 1 => fun y as h r h1 mc ms => Nat.ble (lg_sl as).length (am_ml y) = true ∧ am_go (am_fr (am_run sc d)) sc y mc ms (fun r2 h2 => r2 = r ∧ h2 = h1) (0, lv_args 0 as, [], h, 0, 0)
end
section
/-! ===== how a run is shown: instruction by instruction, or to the end of a block ===== -/
theorem am_go_step {E : am_E} {sc : Option (Nat × (Nat → Int32))} {y mc ms : Nat} {Φ : Option Value → am_H → Prop} {c : am_S} (h : am_step E sc y mc ms Φ (am_go E sc y mc ms Φ) c) : am_go E sc y mc ms Φ c :=
  fun P hP => hP c _ (fun c1 h1 => h1 P hP) h
/-- may the block go on behind this instruction -/
def am_sim (i : Instr) : Bool := match i with
  | .iconst _ => true
  | .bipush _ => true
  | .sipush _ => true
  | .lconst _ => true
  | .aconst_null => true
  | .iload _ => true
  | .iload_n _ => true
  | .lload _ => true
  | .lload_n _ => true
  | .aload _ => true
  | .aload_n _ => true
  | .istore _ => true
  | .istore_n _ => true
  | .astore _ => true
  | .astore_n _ => true
  | .lstore _ => true
  | .lstore_n _ => true
  | .iinc _ _ => true
  | .iadd => true
  | .isub => true
  | .imul => true
  | .iand => true
  | .ior => true
  | .ixor => true
  | .ishl => true
  | .ishr => true
  | .iushr => true
  | .ineg => true
  | .ladd => true
  | .lsub => true
  | .lmul => true
  | .lcmp => true
  | .land => true
  | .lor => true
  | .lxor => true
  | .lshl => true
  | .lshr => true
  | .lushr => true
  | .i2l => true
  | .l2i => true
  | .i2b => true
  | .i2s => true
  | .i2c => true
  | .dup => true
  | .dup2 => true
  | .pop => true
  | .getfield _ => true
  | .getstatic _ => true
  | .arraylength => true
  | .ldc _ => true
  | .ldc_w _ => true
  | .ldc2_w _ => true
  | _ => false
def am_nxt (i : Instr) (kf : Option (List Nat)) (P1 P2 : am_S → Prop) : am_S → Prop := match am_sim i, kf with
  | true, none => P1
  | _, _ => P2
theorem am_nxt_or {i : Instr} {kf : Option (List Nat)} {P1 P2 : am_S → Prop} {c : am_S} (h : am_nxt i kf P1 P2 c) : P1 c ∨ P2 c := by
  unfold am_nxt at h
  generalize am_sim i = b at h
  cases b with
  | false => exact Or.inr h
  | true => cases kf with
    | none => exact Or.inl h
    | some x => exact Or.inr h
/-- from c to the end of its block, or behind the first instruction that asks something -/
noncomputable def am_blk (E : am_E) (sc : Option (Nat × (Nat → Int32))) (y mc ms : Nat) (Φ : Option Value → am_H → Prop) (P : am_S → Prop) : Nat → am_S → Prop
  | 0, c => P c
  | j + 1, c => match am_tb y c.1 with
    | none => False
    | some e => am_ex E sc y mc ms Φ (am_nxt e.1 e.2.2.2.2.1 (am_blk E sc y mc ms Φ P j) P) e.1 e.2.1 e.2.2.1 e.2.2.2.2.1 e.2.2.2.2.2.1 e.2.2.2.2.2.2 c.1 c.2.1 c.2.2.1 c.2.2.2.1 c.2.2.2.2.1 c.2.2.2.2.2
theorem am_go_blk {E : am_E} {sc : Option (Nat × (Nat → Int32))} {y mc ms : Nat} {Φ : Option Value → am_H → Prop} : ∀ (j : Nat) {c : am_S}, am_blk E sc y mc ms Φ (am_go E sc y mc ms Φ) j c → am_go E sc y mc ms Φ c
  | 0, c, h => h
  | j + 1, c, h => by
    intro P hP
    rw [am_blk] at h
    split at h
    · exact h.elim
    · rename_i e he
      refine hP c (am_nxt e.1 e.2.2.2.2.1 (am_blk E sc y mc ms Φ (am_go E sc y mc ms Φ) j) (am_go E sc y mc ms Φ)) ?_ ?_
      · intro c1 h1
        rcases am_nxt_or h1 with h2 | h2
        · exact am_go_blk j h2 P hP
        · exact h2 P hP
      · unfold am_step
        rw [he]
        exact h
theorem am_run_of {sc : Option (Nat × (Nat → Int32))} {d : Nat} {y : Nat} {as : List Value} {h h1 : am_H} {r : Option Value} {mc ms : Nat} (hn : Nat.ble (lg_sl as).length (am_ml y) = true) (hg : am_go (am_fr (am_run sc d)) sc y mc ms (fun r2 h2 => r2 = r ∧ h2 = h1) (0, lv_args 0 as, [], h, 0, 0)) : am_run sc (d + 1) y as h r h1 mc ms := ⟨hn, hg⟩
end
section
/-! ===== the abstract machine's heap laid at addresses: q gives each place its address, ty each kind of array its class ===== -/
def am_rv (q : Nat → Nat) (v : Value) : Value := match v with
  | .ref a => .ref (q a)
  | v => v
def am_ra (q : Nat → Nat) (a : vp_A) : vp_A := match a with
  | (n, .inr (.inr (.inr (.inr f)))) => (n, .inr (.inr (.inr (.inr (fun i => if i < n then (f i).map q else none)))))
  | a => a
def am_rc (q : Nat → Nat) (ty : Nat → ClassId) (c : am_C) : va_E := match c with
  | .inl o => .inl (ty o.1, am_ra q o.2)
  | .inr o => .inr (o.1, o.2.map (am_rv q))
def am_rz (q : Nat → Nat) (ty : Nat → ClassId) (h : am_H) : va_W := h.mapIdx (fun k c => (q k, am_rc q ty c))
def am_rl (q : Nat → Nat) (lv : am_L) : List (Nat × Value) := lv.map (fun x => (x.1, am_rv q x.2))
def am_ag (q q1 : Nat → Nat) (lo hi : Nat) : Prop := ∀ j, (j < lo ∨ hi ≤ j) → q1 j = q j
theorem am_rv_cat (q : Nat → Nat) (v : Value) : (am_rv q v).category = v.category := by cases v <;> rfl
theorem am_rz_get {q : Nat → Nat} {ty : Nat → ClassId} {h : am_H} {k : Nat} {c : am_C} (e : h[k]? = some c) : (am_rz q ty h)[k]? = some (q k, am_rc q ty c) := by
  unfold am_rz
  rw [List.getElem?_mapIdx, e]
  rfl
theorem am_rz_set {q : Nat → Nat} {ty : Nat → ClassId} {h : am_H} {k : Nat} {c : am_C} : (am_rz q ty h).set k (q k, am_rc q ty c) = am_rz q ty (h.set k c) := by
  apply List.ext_getElem?
  intro i
  unfold am_rz
  rw [List.getElem?_mapIdx, List.getElem?_set, List.getElem?_set, List.length_mapIdx]
  by_cases e : k = i
  · subst e
    by_cases h1 : k < h.length
    · simp [h1]
    · simp [h1]
  · simp [e, List.getElem?_mapIdx]
theorem am_get_mem {lv : am_L} {i : Nat} {v : Value} (e : am_get lv i = some v) : (i, v) ∈ lv := by
  induction lv with
  | nil => cases e
  | cons a r ih =>
    unfold am_get at e
    cases hb : Nat.beq a.1 i with
    | true =>
      rw [hb] at e
      cases e
      have := Nat.eq_of_beq_eq_true hb
      subst this
      exact List.mem_cons_self
    | false =>
      rw [hb] at e
      exact List.mem_cons_of_mem _ (ih e)
theorem am_has_get {q : Nat → Nat} {ls : Array Slot} {n : Nat} {lv : am_L} (g : lv_has ls n (am_rl q lv)) {i : Nat} {v : Value} (e : am_get lv i = some v) : ls[i]? = some (.val (am_rv q v)) :=
  g.2.2 (i, am_rv q v) (List.mem_map.mpr ⟨(i, v), am_get_mem e, rfl⟩)
theorem am_has_place {q : Nat → Nat} {lv : am_L} {i : Nat} {v : Value} (e : am_get lv i = some v) : ∃ k : Nat, (am_rl q lv)[k]? = some (i, am_rv q v) :=
  List.getElem?_of_mem (List.mem_map.mpr ⟨(i, v), am_get_mem e, rfl⟩)
theorem am_has_pick {q : Nat → Nat} {ls : Array Slot} {n : Nat} {lv : am_L} (ks : Option (List Nat)) (g : lv_has ls n (am_rl q lv)) : lv_has ls n (am_rl q (am_pick ks lv)) := by
  refine ⟨g.1, g.2.1, fun x hx => ?_⟩
  obtain ⟨y, hy, rfl⟩ := List.mem_map.mp hx
  refine g.2.2 _ (List.mem_map.mpr ⟨y, ?_, rfl⟩)
  cases ks with
  | none => exact hy
  | some ks =>
    obtain ⟨k, -, hk⟩ := List.mem_filterMap.mp hy
    exact List.mem_of_find?_eq_some hk
theorem am_rl_set1 {q : Nat → Nat} {i : Nat} {v : Value} {lv : am_L} : (i, am_rv q v) :: (am_rl q lv).filter (fun x => !(x.1 == i) && !(x.1 + 1 == i && x.2.category == 2)) = am_rl q (am_set1 i v lv) := by
  unfold am_set1 am_rl
  rw [List.map_cons, List.filter_map]
  congr 2
  apply List.filter_congr
  intro x _
  simp [Function.comp, am_rv_cat]
theorem am_rl_set2 {q : Nat → Nat} {i : Nat} {v : Value} {lv : am_L} : (i, am_rv q v) :: (am_rl q lv).filter (fun x => !(x.1 == i) && (!(x.1 == i + 1) && !(x.1 + 1 == i && x.2.category == 2))) = am_rl q (am_set2 i v lv) := by
  unfold am_set2 am_rl
  rw [List.map_cons, List.filter_map]
  congr 2
  apply List.filter_congr
  intro x _
  simp [Function.comp, am_rv_cat]
theorem am_nr_rv {q q1 : Nat → Nat} {lo hi : Nat} (g : ∀ j, (j < lo ∨ hi ≤ j) → q1 j = q j) {v : Value} (e : am_nr lo hi v = true) : am_rv q1 v = am_rv q v := by
  cases v with
  | ref a =>
    have h1 : a < lo ∨ hi ≤ a := by
      rcases Nat.lt_or_ge a lo with h | h
      · exact Or.inl h
      · right
        rcases Nat.lt_or_ge a hi with h2 | h2
        · exfalso
          have e1 : Nat.ble lo a = true := Nat.ble_eq.mpr h
          have e2 : Nat.ble (a + 1) hi = true := Nat.ble_eq.mpr h2
          simp only [am_nr, e1, e2] at e
          cases e
        · exact h2
    show Value.ref (q1 a) = Value.ref (q a)
    rw [g a h1]
  | _ => rfl
theorem am_nl_rl {q q1 : Nat → Nat} {lo hi : Nat} (g : ∀ j, (j < lo ∨ hi ≤ j) → q1 j = q j) {lv : am_L} (e : lv.all (fun x => am_nr lo hi x.2) = true) : am_rl q1 lv = am_rl q lv := by
  unfold am_rl
  apply List.map_congr_left
  intro x hx
  rw [am_nr_rv g (List.all_eq_true.mp e x hx)]
theorem am_ns_rv {q q1 : Nat → Nat} {lo hi : Nat} (g : ∀ j, (j < lo ∨ hi ≤ j) → q1 j = q j) {st : List Value} (e : st.all (am_nr lo hi) = true) : st.map (am_rv q1) = st.map (am_rv q) := by
  apply List.map_congr_left
  intro x hx
  exact am_nr_rv g (List.all_eq_true.mp e x hx)
theorem am_nc_rc {q q1 : Nat → Nat} {ty : Nat → ClassId} {lo hi : Nat} (g : ∀ j, (j < lo ∨ hi ≤ j) → q1 j = q j) {c : am_C} (e : am_nc lo hi c = true) : am_rc q1 ty c = am_rc q ty c := by
  cases c with
  | inr o =>
    show Sum.inr (o.1, o.2.map (am_rv q1)) = Sum.inr (o.1, o.2.map (am_rv q))
    rw [am_ns_rv g e]
  | inl o =>
    obtain ⟨t, n, z⟩ := o
    show Sum.inl (ty t, am_ra q1 (n, z)) = Sum.inl (ty t, am_ra q (n, z))
    congr 2
    match z, e with
    | .inl f, _ => rfl
    | .inr (.inl f), _ => rfl
    | .inr (.inr (.inl f)), _ => rfl
    | .inr (.inr (.inr (.inl f))), _ => rfl
    | .inr (.inr (.inr (.inr f))), e =>
      show (n, _) = (n, _)
      congr 5
      funext i
      by_cases hi2 : i < n
      · rw [if_pos hi2, if_pos hi2]
        have e2 := List.all_eq_true.mp e i (List.mem_range.mpr hi2)
        cases hf : f i with
        | none => rfl
        | some a =>
          rw [hf] at e2
          have h9 : Value.ref (q1 a) = Value.ref (q a) := am_nr_rv (q := q) (q1 := q1) g (v := .ref a) e2
          have h8 : q1 a = q a := by injection h9
          show some (q1 a) = some (q a)
          rw [h8]
      · rw [if_neg hi2, if_neg hi2]
theorem am_nh_rz {q q1 : Nat → Nat} {ty : Nat → ClassId} {lo hi : Nat} (g : ∀ j, (j < lo ∨ hi ≤ j) → q1 j = q j) {h : am_H} (hl : h.length ≤ lo) (e : h.all (am_nc lo hi) = true) : am_rz q1 ty h = am_rz q ty h := by
  apply List.ext_getElem?
  intro i
  unfold am_rz
  rw [List.getElem?_mapIdx, List.getElem?_mapIdx]
  cases hi2 : h[i]? with
  | none => rfl
  | some c =>
    have h1 : i < h.length := (List.getElem?_eq_some_iff.mp hi2).1
    show some (q1 i, am_rc q1 ty c) = some (q i, am_rc q ty c)
    rw [g i (Or.inl (by omega)), am_nc_rc g (List.all_eq_true.mp e c (List.mem_of_getElem? hi2))]
theorem am_rz_app {q : Nat → Nat} {ty : Nat → ClassId} {h : am_H} {c : am_C} : am_rz q ty (h ++ [c]) = am_rz q ty h ++ [(q h.length, am_rc q ty c)] := by
  unfold am_rz
  rw [List.mapIdx_append]
  simp
end
section
/-! ===== what the abstract machine does, the machine does: the standing of a method, and each instruction ===== -/
noncomputable def am_tblg : List Jvm.Cond := wt_tbl.filter goodWord
noncomputable def am_ws (y : Nat) : List Jvm.Cond := Jvm.Cond.code (am_nm y) (am_code y) (am_ml y) (am_ret y) :: am_tblg
theorem am_mg {w : Jvm.Cond} (h : w ∈ wt_tbl) (hg : goodWord w = true) : w ∈ am_tblg := List.mem_filter.mpr ⟨h, hg⟩
def am_rm (d mc ms : Nat) : Room := { frames := d + 3, cells := mc, slots := ms, locals := 60 * (d + 3) }
def am_tys (ty : Nat → ClassId) : List (ClassId × FieldType) := [(ty 0, .int), (ty 1, .long), (ty 2, .object RX6), (ty 3, .array .int), (ty 4, .byte)]
def am_nestB (w : Jvm.Cond) : Bool := match w with
  | .methodLinkNest _ _ _ _ => true
  | _ => false
/-- words of the tables that a callee's list can't bear -/
def am_Nw (U : State) : Prop := (∀ w ∈ wt_tbl, am_nestB w = true → va_Nw w U) ∧ va_AO RX6 U ∧ va_Nw (.arrayOver (.array .int)) U
theorem am_ao {t : FieldType} {u U : State} (h : u.vm = U.vm) (hb : (Jvm.Cond.arrayOver t).before #[] u = true) : (Jvm.Cond.arrayOver t).before #[] U = true := by
  unfold Jvm.Cond.before Jvm.Cond.holds at hb ⊢
  simp only [Jvm.Cond.value] at hb ⊢
  rw [← h]
  exact hb
theorem am_Nw_warm {s U : State} (hW : s.WarmedH U.vm) (h : am_Nw s) : am_Nw U := by
  refine ⟨fun w hw hb => ?_, h.2.1.moved hW.alike, ?_⟩
  · have h1 := h.1 w hw hb
    cases w with
    | methodLinkNest a i x z => exact va_Nw.warmM hW h1
    | _ => cases hb
  · have h2 : (Jvm.Cond.arrayOver (.array .int)).before #[] (s.setVm U.vm) = true := by rw [Cond.arrayOver_setVmC hW.alike]; exact h.2.2
    exact am_ao (rfl : (s.setVm U.vm).vm = U.vm) h2
theorem am_Nw_same {s U : State} (hv : s.vm = U.vm) (h : am_Nw s) : am_Nw U := by
  refine ⟨fun w hw hb => ?_, am_ao hv h.2.1, am_ao hv h.2.2⟩
  have h1 := h.1 w hw hb
  cases w with
  | methodLinkNest a i x z => exact va_tabs rfl hv h1
  | _ => cases hb
/-- what lies outside the heap of cells: the script; two static arrays; String constants; two statics; and those words -/
def am_so (i : Nat) : String := match i with
  | 0 => "LockedToAnothers$LawBook"
  | 1 => "LockedToAnothers$Reader"
  | 2 => "LockedToAnothers$Reader"
  | 3 => "LockedToAnothersLaw"
  | 4 => "LockedToAnothersLaw"
  | 5 => "LockedToAnothersLaw"
  | _ => "LockedToAnothersLaw"
def am_si (i : Nat) : Nat := match i with
  | 0 => 42
  | 1 => 74
  | 2 => 84
  | 3 => 74
  | 4 => 86
  | 5 => 88
  | _ => 90
def am_X (sc : Option (Nat × (Nat → Int32))) (q : Nat → Nat) (A : Nat → Prop) (U : State) (H : Heap) : Prop :=
  ((True ∧ True) ∧ vk_S 7 am_ln am_byt (fun i => q (am_pS + i)) (fun i => q (am_pV + i)) A U H ∧ va_Z "java/lang/String" "COMPACT_STRINGS" "Z" (.int 1) A U H ∧ va_Zq "jdk/internal/util/Preconditions" "SIOOBE_FORMATTER" "Ljava/util/function/BiFunction;" A U H) ∧ am_Nw U ∧ (∀ i, i < 7 → vk_R (am_so i) (am_si i) (am_stx i) (q (am_pS + i)) U) ∧ (va_Z "java/lang/Integer" "DigitOnes" "[B" (.ref (q (am_pX + 1))) A U H ∧ va_T .byte (q (am_pX + 1)) 100 (fun j => .int (am_ones j)) A U H) ∧ (∀ w, sc = some w → va_T .int (q am_pL) w.1 (fun j => .int (w.2 j)) A U H)
theorem am_X_warm {sc : Option (Nat × (Nat → Int32))} {q : Nat → Nat} {A : Nat → Prop} {u U : State} {H : Heap} (hW : u.WarmedH U.vm) (h : am_X sc q A u H) : am_X sc q A U H := ⟨⟨⟨trivial, trivial⟩, h.1.2.1.moved hW.alike, h.1.2.2.1.moved hW.alike, h.1.2.2.2.moved hW.alike⟩, am_Nw_warm hW h.2.1, fun i hi => (h.2.2.1 i hi).warm hW, ⟨h.2.2.2.1.1.moved hW.alike, h.2.2.2.1.2.moved hW.alike⟩, fun w hw => (h.2.2.2.2 w hw).moved hW.alike⟩
theorem am_X_same {sc : Option (Nat × (Nat → Int32))} {q : Nat → Nat} {A : Nat → Prop} {u U : State} {H : Heap} (hv : u.vm = U.vm) (h : am_X sc q A u H) : am_X sc q A U H := by
  have ha : u.vm.Alike U.vm := by rw [hv]; exact Vm.Alike.refl _
  exact ⟨⟨⟨trivial, trivial⟩, h.1.2.1.moved ha, h.1.2.2.1.moved ha, h.1.2.2.2.moved ha⟩, am_Nw_same hv h.2.1, fun i hi => (h.2.2.1 i hi).same hv.symm, ⟨h.2.2.2.1.1.moved ha, h.2.2.2.1.2.moved ha⟩, fun w hw => (h.2.2.2.2 w hw).moved ha⟩
theorem am_X_kept {sc : Option (Nat × (Nat → Int32))} {q : Nat → Nat} {A : Nat → Prop} {U : State} {H H1 : Heap} (h : am_X sc q A U H) (hq : ∀ a : Nat, a < H.size → ¬ A a → H1[a]? = H[a]?) : am_X sc q A U H1 := ⟨⟨⟨trivial, trivial⟩, h.1.2.1.kept hq, h.1.2.2.1.kept hq, h.1.2.2.2.kept hq⟩, h.2.1, h.2.2.1, ⟨h.2.2.2.1.1.kept hq, h.2.2.2.1.2.kept hq⟩, fun w hw => (h.2.2.2.2 w hw).kept hq⟩
theorem am_X_narrow {sc : Option (Nat × (Nat → Int32))} {q : Nat → Nat} {A B : Nat → Prop} {U : State} {H : Heap} (h : am_X sc q A U H) (hAB : ∀ q, B q → A q) : am_X sc q B U H := ⟨⟨⟨trivial, trivial⟩, h.1.2.1.narrow hAB, h.1.2.2.1.narrow hAB, h.1.2.2.2.narrow hAB⟩, h.2.1, h.2.2.1, ⟨h.2.2.2.1.1.narrow hAB, h.2.2.2.1.2.narrow hAB⟩, fun w hw => (h.2.2.2.2 w hw).narrow hAB⟩
theorem am_X_q {sc : Option (Nat × (Nat → Int32))} {q q1 : Nat → Nat} {A : Nat → Prop} {U : State} {H : Heap} (hq : ∀ j, am_pX ≤ j → q1 j = q j) (h : am_X sc q A U H) : am_X sc q1 A U H := by
  have e1 : (fun i => q1 (am_pS + i)) = fun i => q (am_pS + i) := funext fun i => hq _ (by show 2000000 ≤ 3000000 + i; omega)
  have e2 : (fun i => q1 (am_pV + i)) = fun i => q (am_pV + i) := funext fun i => hq _ (by show 2000000 ≤ 3000000 + 1000 + i; omega)
  have e3 : ∀ i, q1 (am_pS + i) = q (am_pS + i) := fun i => hq _ (by show 2000000 ≤ 3000000 + i; omega)
  have e4 : q1 (am_pX + 1) = q (am_pX + 1) := hq _ (by show 2000000 ≤ 2000000 + 1; omega)
  have e5 : q1 am_pL = q am_pL := hq _ (by show 2000000 ≤ 2500000; omega)
  unfold am_X
  rw [e1, e2, e4, e5]
  simp only [e3]
  exact h
theorem am_X_ag {sc : Option (Nat × (Nat → Int32))} {q q1 : Nat → Nat} {A : Nat → Prop} {U : State} {H : Heap} {lo hi : Nat} (hq : am_ag q q1 lo hi) (hh : hi ≤ am_pX) (h : am_X sc q A U H) : am_X sc q1 A U H := am_X_q (fun j hj => hq j (Or.inr (Nat.le_trans hh hj))) h
/-- how a method's return goes on: r is answered, h1 is the heap -/
def am_end (y : Nat) (i : Instr) (r : Option Value) : Prop := match i, r with
  | .ireturn, some (.int x) => ∃ t, am_ret y = some t ∧ narrow t (.int x) = .int x
  | .lreturn, some (.long _) => am_ret y = some .long
  | .areturn, some (.ref _) => ∃ t, am_ret y = some t ∧ ((∃ n, t = .object n) ∨ ∃ t1, t = .array t1)
  | .return_, none => am_ret y = none
  | _, _ => False
def am_Rt (p : Program) (l : Launch) (e : Env) (R : Room) (s : State) (m : MethodId) (args : Array Value) (below : List Frame) (meth : Method) (c : Code) (y mc ms : Nat) (Φ : Option Value → am_H → Prop) (D : va_G) (ty : Nat → ClassId) (A : Nat → Prop) (q0 : Nat → Nat) (h0 : am_H) (Qf : State → Prop) : Prop :=
  ∀ (i : Instr) (r : Option Value) (h1 : am_H) (q : Nat → Nat) (H : Heap) (locs : List Loc) (ls : Array Slot) (pc k n : Nat), am_end y i r → decode (am_code y) pc = .ok (i, 1) → Φ r h1 → am_ag q0 q h0.length h1.length → h0.length ≤ h1.length → va_P D vwCl (am_rz q ty h1) H → va_D A (am_rz q ty h1) → va_S A s.heap H locs → k ≤ mc → n ≤ ms → W p l e R s m args below meth c H locs k n Qf (F0 m pc ls (r.map (am_rv q)).toList)
def am_Cx (p : Program) (l : Launch) (e : Env) (R : Room) (s : State) (m : MethodId) (args : Array Value) (below : List Frame) (meth : Method) (c : Code) (sc : Option (Nat × (Nat → Int32))) (y d mc ms : Nat) (Φ : Option Value → am_H → Prop) (D : va_G) (ty : Nat → ClassId) (A : Nat → Prop) (q0 : Nat → Nat) (h0 : am_H) (Qf : State → Prop) : Prop :=
  p.tables.exec = Jvm.exec ∧ c.code = am_code y ∧ c.maxLocals = am_ml y ∧ (mc ≤ R.cells ∧ ms ≤ R.slots ∧ d + 4 ≤ R.frames ∧ 60 * (d + 4) ≤ R.locals) ∧ s.vm.findClass (am_nm y).cls = some m.cls ∧ True ∧ ((am_nm y).name = "<init>" → meth.name = "<init>") ∧ (∀ w ∈ am_tblg, w.before args s = true) ∧ va_K D vwCl (am_tys ty) s ∧ (∀ q : Nat, s.heap.size ≤ q → A q) ∧ am_X sc q0 A s s.heap ∧
  am_Rt p l e R s m args below meth c y mc ms Φ D ty A q0 h0 Qf
def am_Wt (p : Program) (l : Launch) (e : Env) (R : Room) (s : State) (m : MethodId) (args : Array Value) (below : List Frame) (meth : Method) (c : Code) (y mc ms : Nat) (D : va_G) (ty : Nat → ClassId) (A : Nat → Prop) (q0 : Nat → Nat) (h0 : am_H) (Qf : State → Prop) (x : am_S) : Prop :=
  ∀ (q : Nat → Nat) (H : Heap) (locs : List Loc) (ls : Array Slot), am_ag q0 q h0.length x.2.2.2.1.length → h0.length ≤ x.2.2.2.1.length → va_P D vwCl (am_rz q ty x.2.2.2.1) H → va_D A (am_rz q ty x.2.2.2.1) → va_S A s.heap H locs → lv_has ls (am_ml y) (am_rl q x.2.1) → x.2.2.2.2.1 ≤ mc → x.2.2.2.2.2 ≤ ms →
  W p l e R s m args below meth c H locs x.2.2.2.2.1 x.2.2.2.2.2 Qf (F0 m x.1 ls (x.2.2.1.map (am_rv q)))
section OPS
variable {p : Program} {l : Launch} {e : Env} {R : Room} {s : State} {m : MethodId} {args : Array Value} {below : List Frame} {meth : Method} {c : Code} {sc : Option (Nat × (Nat → Int32))} {y d mc ms : Nat} {Φ : Option Value → am_H → Prop} {D : va_G} {ty : Nat → ClassId} {A : Nat → Prop} {q0 : Nat → Nat} {h0 : am_H} {Qf : State → Prop}
variable {E : am_E} {P : am_S → Prop} {pc a b k n : Nat} {kf kt : Option (List Nat)} {tg : List (Nat × List Nat)} {lv : am_L} {st : List Value} {h : am_H}
theorem am_o_iconst (C : am_Cx p l e R s m args below meth c sc y d mc ms Φ D ty A q0 h0 Qf) (hP : ∀ x : am_S, P x → am_Wt p l e R s m args below meth c y mc ms D ty A q0 h0 Qf x) {x : Int} {len : Nat} (hd : decode (am_code y) pc = .ok (.iconst x, len)) (hn : len = 1)  (hs : am_ex E sc y mc ms Φ P (.iconst x) a b kf kt tg pc lv st h k n) : am_Wt p l e R s m args below meth c y mc ms D ty A q0 h0 Qf (pc, lv, st, h, k, n) := by
  subst hn
  replace hs : P _ := hs
  intro q H locs ls g1 g2 g3 g4 g5 g6 g7 g8
  exact lv_iconst C.1 C.2.1 hd rfl (hP _ (hs) q H locs ls g1 g2 g3 g4 g5 (am_has_pick _ g6) g7 g8)
theorem am_o_bipush (C : am_Cx p l e R s m args below meth c sc y d mc ms Φ D ty A q0 h0 Qf) (hP : ∀ x : am_S, P x → am_Wt p l e R s m args below meth c y mc ms D ty A q0 h0 Qf x) {x : Int} {len : Nat} (hd : decode (am_code y) pc = .ok (.bipush x, len)) (hn : len = 2)  (hs : am_ex E sc y mc ms Φ P (.bipush x) a b kf kt tg pc lv st h k n) : am_Wt p l e R s m args below meth c y mc ms D ty A q0 h0 Qf (pc, lv, st, h, k, n) := by
  subst hn
  replace hs : P _ := hs
  intro q H locs ls g1 g2 g3 g4 g5 g6 g7 g8
  exact lv_bipush C.1 C.2.1 hd rfl (hP _ (hs) q H locs ls g1 g2 g3 g4 g5 (am_has_pick _ g6) g7 g8)
theorem am_o_sipush (C : am_Cx p l e R s m args below meth c sc y d mc ms Φ D ty A q0 h0 Qf) (hP : ∀ x : am_S, P x → am_Wt p l e R s m args below meth c y mc ms D ty A q0 h0 Qf x) {x : Int} {len : Nat} (hd : decode (am_code y) pc = .ok (.sipush x, len)) (hn : len = 3)  (hs : am_ex E sc y mc ms Φ P (.sipush x) a b kf kt tg pc lv st h k n) : am_Wt p l e R s m args below meth c y mc ms D ty A q0 h0 Qf (pc, lv, st, h, k, n) := by
  subst hn
  replace hs : P _ := hs
  intro q H locs ls g1 g2 g3 g4 g5 g6 g7 g8
  exact lv_sipush C.1 C.2.1 hd rfl (hP _ (hs) q H locs ls g1 g2 g3 g4 g5 (am_has_pick _ g6) g7 g8)
theorem am_o_lconst (C : am_Cx p l e R s m args below meth c sc y d mc ms Φ D ty A q0 h0 Qf) (hP : ∀ x : am_S, P x → am_Wt p l e R s m args below meth c y mc ms D ty A q0 h0 Qf x) {x : Fin 2} {len : Nat} (hd : decode (am_code y) pc = .ok (.lconst x, len)) (hn : len = 1)  (hs : am_ex E sc y mc ms Φ P (.lconst x) a b kf kt tg pc lv st h k n) : am_Wt p l e R s m args below meth c y mc ms D ty A q0 h0 Qf (pc, lv, st, h, k, n) := by
  subst hn
  replace hs : P _ := hs
  intro q H locs ls g1 g2 g3 g4 g5 g6 g7 g8
  exact lv_lconst C.1 C.2.1 hd rfl (hP _ (hs) q H locs ls g1 g2 g3 g4 g5 (am_has_pick _ g6) g7 g8)
theorem am_o_aconst_null (C : am_Cx p l e R s m args below meth c sc y d mc ms Φ D ty A q0 h0 Qf) (hP : ∀ x : am_S, P x → am_Wt p l e R s m args below meth c y mc ms D ty A q0 h0 Qf x)  {len : Nat} (hd : decode (am_code y) pc = .ok (.aconst_null, len)) (hn : len = 1)  (hs : am_ex E sc y mc ms Φ P (.aconst_null) a b kf kt tg pc lv st h k n) : am_Wt p l e R s m args below meth c y mc ms D ty A q0 h0 Qf (pc, lv, st, h, k, n) := by
  subst hn
  replace hs : P _ := hs
  intro q H locs ls g1 g2 g3 g4 g5 g6 g7 g8
  exact lv_null C.1 C.2.1 hd (hP _ (hs) q H locs ls g1 g2 g3 g4 g5 (am_has_pick _ g6) g7 g8)
theorem am_o_iload (C : am_Cx p l e R s m args below meth c sc y d mc ms Φ D ty A q0 h0 Qf) (hP : ∀ x : am_S, P x → am_Wt p l e R s m args below meth c y mc ms D ty A q0 h0 Qf x) {x : Nat} {len : Nat} (hd : decode (am_code y) pc = .ok (.iload x, len)) (hn : len = 2)  (hs : am_ex E sc y mc ms Φ P (.iload x) a b kf kt tg pc lv st h k n) : am_Wt p l e R s m args below meth c y mc ms D ty A q0 h0 Qf (pc, lv, st, h, k, n) := by
  subst hn
  replace hs : am_oi (am_get lv x) _ := hs
  unfold am_oi at hs
  split at hs
  · rename_i v hv
    intro q H locs ls g1 g2 g3 g4 g5 g6 g7 g8
    exact lv_iload C.1 C.2.1 hd (am_has_get g6 hv) (hP _ (hs) q H locs ls g1 g2 g3 g4 g5 (am_has_pick _ g6) g7 g8)
  · exact hs.elim
theorem am_o_iload_n (C : am_Cx p l e R s m args below meth c sc y d mc ms Φ D ty A q0 h0 Qf) (hP : ∀ x : am_S, P x → am_Wt p l e R s m args below meth c y mc ms D ty A q0 h0 Qf x) {x : Fin 4} {len : Nat} (hd : decode (am_code y) pc = .ok (.iload_n x, len)) (hn : len = 1)  (hs : am_ex E sc y mc ms Φ P (.iload_n x) a b kf kt tg pc lv st h k n) : am_Wt p l e R s m args below meth c y mc ms D ty A q0 h0 Qf (pc, lv, st, h, k, n) := by
  subst hn
  replace hs : am_oi (am_get lv (x : Nat)) _ := hs
  unfold am_oi at hs
  split at hs
  · rename_i v hv
    intro q H locs ls g1 g2 g3 g4 g5 g6 g7 g8
    exact lv_iload_n C.1 C.2.1 hd rfl (am_has_get g6 hv) (hP _ (hs) q H locs ls g1 g2 g3 g4 g5 (am_has_pick _ g6) g7 g8)
  · exact hs.elim
theorem am_o_lload (C : am_Cx p l e R s m args below meth c sc y d mc ms Φ D ty A q0 h0 Qf) (hP : ∀ x : am_S, P x → am_Wt p l e R s m args below meth c y mc ms D ty A q0 h0 Qf x) {x : Nat} {len : Nat} (hd : decode (am_code y) pc = .ok (.lload x, len)) (hn : len = 2)  (hs : am_ex E sc y mc ms Φ P (.lload x) a b kf kt tg pc lv st h k n) : am_Wt p l e R s m args below meth c y mc ms D ty A q0 h0 Qf (pc, lv, st, h, k, n) := by
  subst hn
  replace hs : am_ol (am_get lv x) _ := hs
  unfold am_ol at hs
  split at hs
  · rename_i v hv
    intro q H locs ls g1 g2 g3 g4 g5 g6 g7 g8
    exact lv_lload C.1 C.2.1 hd (am_has_get g6 hv) (hP _ (hs) q H locs ls g1 g2 g3 g4 g5 (am_has_pick _ g6) g7 g8)
  · exact hs.elim
theorem am_o_lload_n (C : am_Cx p l e R s m args below meth c sc y d mc ms Φ D ty A q0 h0 Qf) (hP : ∀ x : am_S, P x → am_Wt p l e R s m args below meth c y mc ms D ty A q0 h0 Qf x) {x : Fin 4} {len : Nat} (hd : decode (am_code y) pc = .ok (.lload_n x, len)) (hn : len = 1)  (hs : am_ex E sc y mc ms Φ P (.lload_n x) a b kf kt tg pc lv st h k n) : am_Wt p l e R s m args below meth c y mc ms D ty A q0 h0 Qf (pc, lv, st, h, k, n) := by
  subst hn
  replace hs : am_ol (am_get lv (x : Nat)) _ := hs
  unfold am_ol at hs
  split at hs
  · rename_i v hv
    intro q H locs ls g1 g2 g3 g4 g5 g6 g7 g8
    exact lv_lload_n C.1 C.2.1 hd rfl (am_has_get g6 hv) (hP _ (hs) q H locs ls g1 g2 g3 g4 g5 (am_has_pick _ g6) g7 g8)
  · exact hs.elim
theorem am_o_aload (C : am_Cx p l e R s m args below meth c sc y d mc ms Φ D ty A q0 h0 Qf) (hP : ∀ x : am_S, P x → am_Wt p l e R s m args below meth c y mc ms D ty A q0 h0 Qf x) {x : Nat} {len : Nat} (hd : decode (am_code y) pc = .ok (.aload x, len)) (hn : len = 2)  (hs : am_ex E sc y mc ms Φ P (.aload x) a b kf kt tg pc lv st h k n) : am_Wt p l e R s m args below meth c y mc ms D ty A q0 h0 Qf (pc, lv, st, h, k, n) := by
  subst hn
  replace hs : am_oa (am_get lv x) _ := hs
  unfold am_oa at hs
  split at hs
  · rename_i v hv
    intro q H locs ls g1 g2 g3 g4 g5 g6 g7 g8
    exact lv_aload C.1 C.2.1 hd (am_has_get g6 hv) (hP _ (hs) q H locs ls g1 g2 g3 g4 g5 (am_has_pick _ g6) g7 g8)
  · exact hs.elim
theorem am_o_aload_n (C : am_Cx p l e R s m args below meth c sc y d mc ms Φ D ty A q0 h0 Qf) (hP : ∀ x : am_S, P x → am_Wt p l e R s m args below meth c y mc ms D ty A q0 h0 Qf x) {x : Fin 4} {len : Nat} (hd : decode (am_code y) pc = .ok (.aload_n x, len)) (hn : len = 1)  (hs : am_ex E sc y mc ms Φ P (.aload_n x) a b kf kt tg pc lv st h k n) : am_Wt p l e R s m args below meth c y mc ms D ty A q0 h0 Qf (pc, lv, st, h, k, n) := by
  subst hn
  replace hs : am_oa (am_get lv (x : Nat)) _ := hs
  unfold am_oa at hs
  split at hs
  · rename_i v hv
    intro q H locs ls g1 g2 g3 g4 g5 g6 g7 g8
    exact lv_aload_n C.1 C.2.1 hd rfl (am_has_get g6 hv) (hP _ (hs) q H locs ls g1 g2 g3 g4 g5 (am_has_pick _ g6) g7 g8)
  · exact hs.elim
theorem am_o_istore (C : am_Cx p l e R s m args below meth c sc y d mc ms Φ D ty A q0 h0 Qf) (hP : ∀ x : am_S, P x → am_Wt p l e R s m args below meth c y mc ms D ty A q0 h0 Qf x) {x : Nat} {len : Nat} (hd : decode (am_code y) pc = .ok (.istore x, len)) (hn : len = 2)  (hs : am_ex E sc y mc ms Φ P (.istore x) a b kf kt tg pc lv st h k n) : am_Wt p l e R s m args below meth c y mc ms D ty A q0 h0 Qf (pc, lv, st, h, k, n) := by
  subst hn
  replace hs : am_i1 st _ := hs
  unfold am_i1 at hs
  split at hs
  · rename_i v r
    unfold am_b at hs
    split at hs
    · rename_i hb
      intro q H locs ls g1 g2 g3 g4 g5 g6 g7 g8
      exact lv_istore (i := x) (lv' := am_rl q (am_set1 x (.int v) lv)) C.1 C.2.1 hd g6 (by have := Nat.ble_eq.mp hb; omega) (am_rl_set1 (v := .int v)) (fun ls1 g61 => hP _ hs q H locs ls1 g1 g2 g3 g4 g5 (am_has_pick _ g61) g7 g8)
    · exact hs.elim
  · exact hs.elim
theorem am_o_istore_n (C : am_Cx p l e R s m args below meth c sc y d mc ms Φ D ty A q0 h0 Qf) (hP : ∀ x : am_S, P x → am_Wt p l e R s m args below meth c y mc ms D ty A q0 h0 Qf x) {x : Fin 4} {len : Nat} (hd : decode (am_code y) pc = .ok (.istore_n x, len)) (hn : len = 1)  (hs : am_ex E sc y mc ms Φ P (.istore_n x) a b kf kt tg pc lv st h k n) : am_Wt p l e R s m args below meth c y mc ms D ty A q0 h0 Qf (pc, lv, st, h, k, n) := by
  subst hn
  replace hs : am_i1 st _ := hs
  unfold am_i1 at hs
  split at hs
  · rename_i v r
    unfold am_b at hs
    split at hs
    · rename_i hb
      intro q H locs ls g1 g2 g3 g4 g5 g6 g7 g8
      exact lv_istore_n (i := (x : Nat)) (lv' := am_rl q (am_set1 (x : Nat) (.int v) lv)) C.1 C.2.1 hd rfl g6 (by have := Nat.ble_eq.mp hb; omega) (am_rl_set1 (v := .int v)) (fun ls1 g61 => hP _ hs q H locs ls1 g1 g2 g3 g4 g5 (am_has_pick _ g61) g7 g8)
    · exact hs.elim
  · exact hs.elim
theorem am_o_astore (C : am_Cx p l e R s m args below meth c sc y d mc ms Φ D ty A q0 h0 Qf) (hP : ∀ x : am_S, P x → am_Wt p l e R s m args below meth c y mc ms D ty A q0 h0 Qf x) {x : Nat} {len : Nat} (hd : decode (am_code y) pc = .ok (.astore x, len)) (hn : len = 2)  (hs : am_ex E sc y mc ms Φ P (.astore x) a b kf kt tg pc lv st h k n) : am_Wt p l e R s m args below meth c y mc ms D ty A q0 h0 Qf (pc, lv, st, h, k, n) := by
  subst hn
  replace hs : am_r1 st _ := hs
  unfold am_r1 at hs
  split at hs
  · rename_i v r
    unfold am_b at hs
    split at hs
    · rename_i hb
      intro q H locs ls g1 g2 g3 g4 g5 g6 g7 g8
      exact lv_astore (i := x) (lv' := am_rl q (am_set1 x (.ref v) lv)) C.1 C.2.1 hd g6 (by have := Nat.ble_eq.mp hb; omega) (am_rl_set1 (v := .ref v)) (fun ls1 g61 => hP _ hs q H locs ls1 g1 g2 g3 g4 g5 (am_has_pick _ g61) g7 g8)
    · exact hs.elim
  · exact hs.elim
theorem am_o_astore_n (C : am_Cx p l e R s m args below meth c sc y d mc ms Φ D ty A q0 h0 Qf) (hP : ∀ x : am_S, P x → am_Wt p l e R s m args below meth c y mc ms D ty A q0 h0 Qf x) {x : Fin 4} {len : Nat} (hd : decode (am_code y) pc = .ok (.astore_n x, len)) (hn : len = 1)  (hs : am_ex E sc y mc ms Φ P (.astore_n x) a b kf kt tg pc lv st h k n) : am_Wt p l e R s m args below meth c y mc ms D ty A q0 h0 Qf (pc, lv, st, h, k, n) := by
  subst hn
  replace hs : am_r1 st _ := hs
  unfold am_r1 at hs
  split at hs
  · rename_i v r
    unfold am_b at hs
    split at hs
    · rename_i hb
      intro q H locs ls g1 g2 g3 g4 g5 g6 g7 g8
      exact lv_astore_n (i := (x : Nat)) (lv' := am_rl q (am_set1 (x : Nat) (.ref v) lv)) C.1 C.2.1 hd rfl g6 (by have := Nat.ble_eq.mp hb; omega) (am_rl_set1 (v := .ref v)) (fun ls1 g61 => hP _ hs q H locs ls1 g1 g2 g3 g4 g5 (am_has_pick _ g61) g7 g8)
    · exact hs.elim
  · exact hs.elim
theorem am_o_lstore (C : am_Cx p l e R s m args below meth c sc y d mc ms Φ D ty A q0 h0 Qf) (hP : ∀ x : am_S, P x → am_Wt p l e R s m args below meth c y mc ms D ty A q0 h0 Qf x) {x : Nat} {len : Nat} (hd : decode (am_code y) pc = .ok (.lstore x, len)) (hn : len = 2)  (hs : am_ex E sc y mc ms Φ P (.lstore x) a b kf kt tg pc lv st h k n) : am_Wt p l e R s m args below meth c y mc ms D ty A q0 h0 Qf (pc, lv, st, h, k, n) := by
  subst hn
  replace hs : am_l1 st _ := hs
  unfold am_l1 at hs
  split at hs
  · rename_i v r
    unfold am_b at hs
    split at hs
    · rename_i hb
      intro q H locs ls g1 g2 g3 g4 g5 g6 g7 g8
      exact lv_lstore (i := x) (lv' := am_rl q (am_set2 x (.long v) lv)) C.1 C.2.1 hd g6 (by have := Nat.ble_eq.mp hb; omega) (am_rl_set2 (v := .long v)) (fun ls1 g61 => hP _ hs q H locs ls1 g1 g2 g3 g4 g5 (am_has_pick _ g61) g7 g8)
    · exact hs.elim
  · exact hs.elim
theorem am_o_lstore_n (C : am_Cx p l e R s m args below meth c sc y d mc ms Φ D ty A q0 h0 Qf) (hP : ∀ x : am_S, P x → am_Wt p l e R s m args below meth c y mc ms D ty A q0 h0 Qf x) {x : Fin 4} {len : Nat} (hd : decode (am_code y) pc = .ok (.lstore_n x, len)) (hn : len = 1)  (hs : am_ex E sc y mc ms Φ P (.lstore_n x) a b kf kt tg pc lv st h k n) : am_Wt p l e R s m args below meth c y mc ms D ty A q0 h0 Qf (pc, lv, st, h, k, n) := by
  subst hn
  replace hs : am_l1 st _ := hs
  unfold am_l1 at hs
  split at hs
  · rename_i v r
    unfold am_b at hs
    split at hs
    · rename_i hb
      intro q H locs ls g1 g2 g3 g4 g5 g6 g7 g8
      exact lv_lstore_n (i := (x : Nat)) (lv' := am_rl q (am_set2 (x : Nat) (.long v) lv)) C.1 C.2.1 hd rfl g6 (by have := Nat.ble_eq.mp hb; omega) (am_rl_set2 (v := .long v)) (fun ls1 g61 => hP _ hs q H locs ls1 g1 g2 g3 g4 g5 (am_has_pick _ g61) g7 g8)
    · exact hs.elim
  · exact hs.elim
theorem am_o_iinc (C : am_Cx p l e R s m args below meth c sc y d mc ms Φ D ty A q0 h0 Qf) (hP : ∀ x : am_S, P x → am_Wt p l e R s m args below meth c y mc ms D ty A q0 h0 Qf x) {x : Nat} {z : Int} {len : Nat} (hd : decode (am_code y) pc = .ok (.iinc x z, len)) (hn : len = 3)  (hs : am_ex E sc y mc ms Φ P (.iinc x z) a b kf kt tg pc lv st h k n) : am_Wt p l e R s m args below meth c y mc ms D ty A q0 h0 Qf (pc, lv, st, h, k, n) := by
  subst hn
  replace hs : am_oi (am_get lv x) _ := hs
  unfold am_oi at hs
  split at hs
  · rename_i v hv
    unfold am_b at hs
    split at hs
    · rename_i hb
      intro q H locs ls g1 g2 g3 g4 g5 g6 g7 g8
      obtain ⟨k9, hk9⟩ := am_has_place (q := q) hv
      exact lv_iinc (lv' := am_rl q (am_set1 x (.int (v + Int32.ofInt z)) lv)) C.1 C.2.1 hd g6 hk9 rfl (by have := Nat.ble_eq.mp hb; omega) (am_rl_set1 (v := .int (v + Int32.ofInt z))) (fun ls1 g61 => hP _ hs q H locs ls1 g1 g2 g3 g4 g5 (am_has_pick _ g61) g7 g8)
    · exact hs.elim
  · exact hs.elim
theorem am_o_iadd (C : am_Cx p l e R s m args below meth c sc y d mc ms Φ D ty A q0 h0 Qf) (hP : ∀ x : am_S, P x → am_Wt p l e R s m args below meth c y mc ms D ty A q0 h0 Qf x)  {len : Nat} (hd : decode (am_code y) pc = .ok (.iadd, len)) (hn : len = 1)  (hs : am_ex E sc y mc ms Φ P (.iadd) a b kf kt tg pc lv st h k n) : am_Wt p l e R s m args below meth c y mc ms D ty A q0 h0 Qf (pc, lv, st, h, k, n) := by
  subst hn
  replace hs : am_i2 st _ := hs
  unfold am_i2 at hs
  split at hs
  · intro q H locs ls g1 g2 g3 g4 g5 g6 g7 g8
    exact lv_iadd C.1 C.2.1 hd (hP _ (hs) q H locs ls g1 g2 g3 g4 g5 (am_has_pick _ g6) g7 g8)
  · exact hs.elim
theorem am_o_isub (C : am_Cx p l e R s m args below meth c sc y d mc ms Φ D ty A q0 h0 Qf) (hP : ∀ x : am_S, P x → am_Wt p l e R s m args below meth c y mc ms D ty A q0 h0 Qf x)  {len : Nat} (hd : decode (am_code y) pc = .ok (.isub, len)) (hn : len = 1)  (hs : am_ex E sc y mc ms Φ P (.isub) a b kf kt tg pc lv st h k n) : am_Wt p l e R s m args below meth c y mc ms D ty A q0 h0 Qf (pc, lv, st, h, k, n) := by
  subst hn
  replace hs : am_i2 st _ := hs
  unfold am_i2 at hs
  split at hs
  · intro q H locs ls g1 g2 g3 g4 g5 g6 g7 g8
    exact lv_isub C.1 C.2.1 hd (hP _ (hs) q H locs ls g1 g2 g3 g4 g5 (am_has_pick _ g6) g7 g8)
  · exact hs.elim
theorem am_o_imul (C : am_Cx p l e R s m args below meth c sc y d mc ms Φ D ty A q0 h0 Qf) (hP : ∀ x : am_S, P x → am_Wt p l e R s m args below meth c y mc ms D ty A q0 h0 Qf x)  {len : Nat} (hd : decode (am_code y) pc = .ok (.imul, len)) (hn : len = 1)  (hs : am_ex E sc y mc ms Φ P (.imul) a b kf kt tg pc lv st h k n) : am_Wt p l e R s m args below meth c y mc ms D ty A q0 h0 Qf (pc, lv, st, h, k, n) := by
  subst hn
  replace hs : am_i2 st _ := hs
  unfold am_i2 at hs
  split at hs
  · intro q H locs ls g1 g2 g3 g4 g5 g6 g7 g8
    exact lv_imul C.1 C.2.1 hd (hP _ (hs) q H locs ls g1 g2 g3 g4 g5 (am_has_pick _ g6) g7 g8)
  · exact hs.elim
theorem am_o_iand (C : am_Cx p l e R s m args below meth c sc y d mc ms Φ D ty A q0 h0 Qf) (hP : ∀ x : am_S, P x → am_Wt p l e R s m args below meth c y mc ms D ty A q0 h0 Qf x)  {len : Nat} (hd : decode (am_code y) pc = .ok (.iand, len)) (hn : len = 1)  (hs : am_ex E sc y mc ms Φ P (.iand) a b kf kt tg pc lv st h k n) : am_Wt p l e R s m args below meth c y mc ms D ty A q0 h0 Qf (pc, lv, st, h, k, n) := by
  subst hn
  replace hs : am_i2 st _ := hs
  unfold am_i2 at hs
  split at hs
  · intro q H locs ls g1 g2 g3 g4 g5 g6 g7 g8
    exact lv_iand C.1 C.2.1 hd (hP _ (hs) q H locs ls g1 g2 g3 g4 g5 (am_has_pick _ g6) g7 g8)
  · exact hs.elim
theorem am_o_ior (C : am_Cx p l e R s m args below meth c sc y d mc ms Φ D ty A q0 h0 Qf) (hP : ∀ x : am_S, P x → am_Wt p l e R s m args below meth c y mc ms D ty A q0 h0 Qf x)  {len : Nat} (hd : decode (am_code y) pc = .ok (.ior, len)) (hn : len = 1)  (hs : am_ex E sc y mc ms Φ P (.ior) a b kf kt tg pc lv st h k n) : am_Wt p l e R s m args below meth c y mc ms D ty A q0 h0 Qf (pc, lv, st, h, k, n) := by
  subst hn
  replace hs : am_i2 st _ := hs
  unfold am_i2 at hs
  split at hs
  · intro q H locs ls g1 g2 g3 g4 g5 g6 g7 g8
    exact lv_ior C.1 C.2.1 hd (hP _ (hs) q H locs ls g1 g2 g3 g4 g5 (am_has_pick _ g6) g7 g8)
  · exact hs.elim
theorem am_o_ixor (C : am_Cx p l e R s m args below meth c sc y d mc ms Φ D ty A q0 h0 Qf) (hP : ∀ x : am_S, P x → am_Wt p l e R s m args below meth c y mc ms D ty A q0 h0 Qf x)  {len : Nat} (hd : decode (am_code y) pc = .ok (.ixor, len)) (hn : len = 1)  (hs : am_ex E sc y mc ms Φ P (.ixor) a b kf kt tg pc lv st h k n) : am_Wt p l e R s m args below meth c y mc ms D ty A q0 h0 Qf (pc, lv, st, h, k, n) := by
  subst hn
  replace hs : am_i2 st _ := hs
  unfold am_i2 at hs
  split at hs
  · intro q H locs ls g1 g2 g3 g4 g5 g6 g7 g8
    exact lv_ixor C.1 C.2.1 hd (hP _ (hs) q H locs ls g1 g2 g3 g4 g5 (am_has_pick _ g6) g7 g8)
  · exact hs.elim
theorem am_o_ishl (C : am_Cx p l e R s m args below meth c sc y d mc ms Φ D ty A q0 h0 Qf) (hP : ∀ x : am_S, P x → am_Wt p l e R s m args below meth c y mc ms D ty A q0 h0 Qf x)  {len : Nat} (hd : decode (am_code y) pc = .ok (.ishl, len)) (hn : len = 1)  (hs : am_ex E sc y mc ms Φ P (.ishl) a b kf kt tg pc lv st h k n) : am_Wt p l e R s m args below meth c y mc ms D ty A q0 h0 Qf (pc, lv, st, h, k, n) := by
  subst hn
  replace hs : am_i2 st _ := hs
  unfold am_i2 at hs
  split at hs
  · intro q H locs ls g1 g2 g3 g4 g5 g6 g7 g8
    exact lv_ishl C.1 C.2.1 hd (hP _ (hs) q H locs ls g1 g2 g3 g4 g5 (am_has_pick _ g6) g7 g8)
  · exact hs.elim
theorem am_o_ishr (C : am_Cx p l e R s m args below meth c sc y d mc ms Φ D ty A q0 h0 Qf) (hP : ∀ x : am_S, P x → am_Wt p l e R s m args below meth c y mc ms D ty A q0 h0 Qf x)  {len : Nat} (hd : decode (am_code y) pc = .ok (.ishr, len)) (hn : len = 1)  (hs : am_ex E sc y mc ms Φ P (.ishr) a b kf kt tg pc lv st h k n) : am_Wt p l e R s m args below meth c y mc ms D ty A q0 h0 Qf (pc, lv, st, h, k, n) := by
  subst hn
  replace hs : am_i2 st _ := hs
  unfold am_i2 at hs
  split at hs
  · intro q H locs ls g1 g2 g3 g4 g5 g6 g7 g8
    exact lv_ishr C.1 C.2.1 hd (hP _ (hs) q H locs ls g1 g2 g3 g4 g5 (am_has_pick _ g6) g7 g8)
  · exact hs.elim
theorem am_o_iushr (C : am_Cx p l e R s m args below meth c sc y d mc ms Φ D ty A q0 h0 Qf) (hP : ∀ x : am_S, P x → am_Wt p l e R s m args below meth c y mc ms D ty A q0 h0 Qf x)  {len : Nat} (hd : decode (am_code y) pc = .ok (.iushr, len)) (hn : len = 1)  (hs : am_ex E sc y mc ms Φ P (.iushr) a b kf kt tg pc lv st h k n) : am_Wt p l e R s m args below meth c y mc ms D ty A q0 h0 Qf (pc, lv, st, h, k, n) := by
  subst hn
  replace hs : am_i2 st _ := hs
  unfold am_i2 at hs
  split at hs
  · intro q H locs ls g1 g2 g3 g4 g5 g6 g7 g8
    exact lv_iushr C.1 C.2.1 hd rfl (hP _ (hs) q H locs ls g1 g2 g3 g4 g5 (am_has_pick _ g6) g7 g8)
  · exact hs.elim
theorem am_o_ladd (C : am_Cx p l e R s m args below meth c sc y d mc ms Φ D ty A q0 h0 Qf) (hP : ∀ x : am_S, P x → am_Wt p l e R s m args below meth c y mc ms D ty A q0 h0 Qf x)  {len : Nat} (hd : decode (am_code y) pc = .ok (.ladd, len)) (hn : len = 1)  (hs : am_ex E sc y mc ms Φ P (.ladd) a b kf kt tg pc lv st h k n) : am_Wt p l e R s m args below meth c y mc ms D ty A q0 h0 Qf (pc, lv, st, h, k, n) := by
  subst hn
  replace hs : am_l2 st _ := hs
  unfold am_l2 at hs
  split at hs
  · intro q H locs ls g1 g2 g3 g4 g5 g6 g7 g8
    exact lv_ladd C.1 C.2.1 hd (hP _ (hs) q H locs ls g1 g2 g3 g4 g5 (am_has_pick _ g6) g7 g8)
  · exact hs.elim
theorem am_o_lsub (C : am_Cx p l e R s m args below meth c sc y d mc ms Φ D ty A q0 h0 Qf) (hP : ∀ x : am_S, P x → am_Wt p l e R s m args below meth c y mc ms D ty A q0 h0 Qf x)  {len : Nat} (hd : decode (am_code y) pc = .ok (.lsub, len)) (hn : len = 1)  (hs : am_ex E sc y mc ms Φ P (.lsub) a b kf kt tg pc lv st h k n) : am_Wt p l e R s m args below meth c y mc ms D ty A q0 h0 Qf (pc, lv, st, h, k, n) := by
  subst hn
  replace hs : am_l2 st _ := hs
  unfold am_l2 at hs
  split at hs
  · intro q H locs ls g1 g2 g3 g4 g5 g6 g7 g8
    exact lv_lsub C.1 C.2.1 hd (hP _ (hs) q H locs ls g1 g2 g3 g4 g5 (am_has_pick _ g6) g7 g8)
  · exact hs.elim
theorem am_o_lmul (C : am_Cx p l e R s m args below meth c sc y d mc ms Φ D ty A q0 h0 Qf) (hP : ∀ x : am_S, P x → am_Wt p l e R s m args below meth c y mc ms D ty A q0 h0 Qf x)  {len : Nat} (hd : decode (am_code y) pc = .ok (.lmul, len)) (hn : len = 1)  (hs : am_ex E sc y mc ms Φ P (.lmul) a b kf kt tg pc lv st h k n) : am_Wt p l e R s m args below meth c y mc ms D ty A q0 h0 Qf (pc, lv, st, h, k, n) := by
  subst hn
  replace hs : am_l2 st _ := hs
  unfold am_l2 at hs
  split at hs
  · intro q H locs ls g1 g2 g3 g4 g5 g6 g7 g8
    exact lv_lmul C.1 C.2.1 hd (hP _ (hs) q H locs ls g1 g2 g3 g4 g5 (am_has_pick _ g6) g7 g8)
  · exact hs.elim
theorem am_o_land (C : am_Cx p l e R s m args below meth c sc y d mc ms Φ D ty A q0 h0 Qf) (hP : ∀ x : am_S, P x → am_Wt p l e R s m args below meth c y mc ms D ty A q0 h0 Qf x)  {len : Nat} (hd : decode (am_code y) pc = .ok (.land, len)) (hn : len = 1)  (hs : am_ex E sc y mc ms Φ P (.land) a b kf kt tg pc lv st h k n) : am_Wt p l e R s m args below meth c y mc ms D ty A q0 h0 Qf (pc, lv, st, h, k, n) := by
  subst hn
  replace hs : am_l2 st _ := hs
  unfold am_l2 at hs
  split at hs
  · intro q H locs ls g1 g2 g3 g4 g5 g6 g7 g8
    exact lv_land C.1 C.2.1 hd (hP _ (hs) q H locs ls g1 g2 g3 g4 g5 (am_has_pick _ g6) g7 g8)
  · exact hs.elim
theorem am_o_lor (C : am_Cx p l e R s m args below meth c sc y d mc ms Φ D ty A q0 h0 Qf) (hP : ∀ x : am_S, P x → am_Wt p l e R s m args below meth c y mc ms D ty A q0 h0 Qf x)  {len : Nat} (hd : decode (am_code y) pc = .ok (.lor, len)) (hn : len = 1)  (hs : am_ex E sc y mc ms Φ P (.lor) a b kf kt tg pc lv st h k n) : am_Wt p l e R s m args below meth c y mc ms D ty A q0 h0 Qf (pc, lv, st, h, k, n) := by
  subst hn
  replace hs : am_l2 st _ := hs
  unfold am_l2 at hs
  split at hs
  · intro q H locs ls g1 g2 g3 g4 g5 g6 g7 g8
    exact lv_lor C.1 C.2.1 hd (hP _ (hs) q H locs ls g1 g2 g3 g4 g5 (am_has_pick _ g6) g7 g8)
  · exact hs.elim
theorem am_o_lxor (C : am_Cx p l e R s m args below meth c sc y d mc ms Φ D ty A q0 h0 Qf) (hP : ∀ x : am_S, P x → am_Wt p l e R s m args below meth c y mc ms D ty A q0 h0 Qf x)  {len : Nat} (hd : decode (am_code y) pc = .ok (.lxor, len)) (hn : len = 1)  (hs : am_ex E sc y mc ms Φ P (.lxor) a b kf kt tg pc lv st h k n) : am_Wt p l e R s m args below meth c y mc ms D ty A q0 h0 Qf (pc, lv, st, h, k, n) := by
  subst hn
  replace hs : am_l2 st _ := hs
  unfold am_l2 at hs
  split at hs
  · intro q H locs ls g1 g2 g3 g4 g5 g6 g7 g8
    exact lv_lxor C.1 C.2.1 hd (hP _ (hs) q H locs ls g1 g2 g3 g4 g5 (am_has_pick _ g6) g7 g8)
  · exact hs.elim
theorem am_o_lshl (C : am_Cx p l e R s m args below meth c sc y d mc ms Φ D ty A q0 h0 Qf) (hP : ∀ x : am_S, P x → am_Wt p l e R s m args below meth c y mc ms D ty A q0 h0 Qf x)  {len : Nat} (hd : decode (am_code y) pc = .ok (.lshl, len)) (hn : len = 1)  (hs : am_ex E sc y mc ms Φ P (.lshl) a b kf kt tg pc lv st h k n) : am_Wt p l e R s m args below meth c y mc ms D ty A q0 h0 Qf (pc, lv, st, h, k, n) := by
  subst hn
  replace hs : am_i1 st _ := hs
  unfold am_i1 at hs
  split at hs
  · unfold am_l1 at hs
    split at hs
    · intro q H locs ls g1 g2 g3 g4 g5 g6 g7 g8
      exact lv_lshl C.1 C.2.1 hd rfl (hP _ (hs) q H locs ls g1 g2 g3 g4 g5 (am_has_pick _ g6) g7 g8)
    · exact hs.elim
  · exact hs.elim
theorem am_o_lshr (C : am_Cx p l e R s m args below meth c sc y d mc ms Φ D ty A q0 h0 Qf) (hP : ∀ x : am_S, P x → am_Wt p l e R s m args below meth c y mc ms D ty A q0 h0 Qf x)  {len : Nat} (hd : decode (am_code y) pc = .ok (.lshr, len)) (hn : len = 1)  (hs : am_ex E sc y mc ms Φ P (.lshr) a b kf kt tg pc lv st h k n) : am_Wt p l e R s m args below meth c y mc ms D ty A q0 h0 Qf (pc, lv, st, h, k, n) := by
  subst hn
  replace hs : am_i1 st _ := hs
  unfold am_i1 at hs
  split at hs
  · unfold am_l1 at hs
    split at hs
    · intro q H locs ls g1 g2 g3 g4 g5 g6 g7 g8
      exact lv_lshr C.1 C.2.1 hd rfl (hP _ (hs) q H locs ls g1 g2 g3 g4 g5 (am_has_pick _ g6) g7 g8)
    · exact hs.elim
  · exact hs.elim
theorem am_o_lushr (C : am_Cx p l e R s m args below meth c sc y d mc ms Φ D ty A q0 h0 Qf) (hP : ∀ x : am_S, P x → am_Wt p l e R s m args below meth c y mc ms D ty A q0 h0 Qf x)  {len : Nat} (hd : decode (am_code y) pc = .ok (.lushr, len)) (hn : len = 1)  (hs : am_ex E sc y mc ms Φ P (.lushr) a b kf kt tg pc lv st h k n) : am_Wt p l e R s m args below meth c y mc ms D ty A q0 h0 Qf (pc, lv, st, h, k, n) := by
  subst hn
  replace hs : am_i1 st _ := hs
  unfold am_i1 at hs
  split at hs
  · unfold am_l1 at hs
    split at hs
    · intro q H locs ls g1 g2 g3 g4 g5 g6 g7 g8
      exact lv_lushr C.1 C.2.1 hd rfl (hP _ (hs) q H locs ls g1 g2 g3 g4 g5 (am_has_pick _ g6) g7 g8)
    · exact hs.elim
  · exact hs.elim
theorem am_o_lcmp (C : am_Cx p l e R s m args below meth c sc y d mc ms Φ D ty A q0 h0 Qf) (hP : ∀ x : am_S, P x → am_Wt p l e R s m args below meth c y mc ms D ty A q0 h0 Qf x)  {len : Nat} (hd : decode (am_code y) pc = .ok (.lcmp, len)) (hn : len = 1)  (hs : am_ex E sc y mc ms Φ P (.lcmp) a b kf kt tg pc lv st h k n) : am_Wt p l e R s m args below meth c y mc ms D ty A q0 h0 Qf (pc, lv, st, h, k, n) := by
  subst hn
  replace hs : am_l2 st _ := hs
  unfold am_l2 at hs
  split at hs
  · intro q H locs ls g1 g2 g3 g4 g5 g6 g7 g8
    exact W.lcmp C.1 C.2.1 hd (hP _ (hs) q H locs ls g1 g2 g3 g4 g5 (am_has_pick _ g6) g7 g8)
  · exact hs.elim
theorem am_o_idiv (C : am_Cx p l e R s m args below meth c sc y d mc ms Φ D ty A q0 h0 Qf) (hP : ∀ x : am_S, P x → am_Wt p l e R s m args below meth c y mc ms D ty A q0 h0 Qf x)  {len : Nat} (hd : decode (am_code y) pc = .ok (.idiv, len)) (hn : len = 1)  (hs : am_ex E sc y mc ms Φ P (.idiv) a b kf kt tg pc lv st h k n) : am_Wt p l e R s m args below meth c y mc ms D ty A q0 h0 Qf (pc, lv, st, h, k, n) := by
  subst hn
  replace hs : am_i2 st _ := hs
  unfold am_i2 at hs
  split at hs
  · intro q H locs ls g1 g2 g3 g4 g5 g6 g7 g8
    exact lv_idiv C.1 C.2.1 hd hs.1 (hP _ (hs.2) q H locs ls g1 g2 g3 g4 g5 (am_has_pick _ g6) g7 g8)
  · exact hs.elim
theorem am_o_irem (C : am_Cx p l e R s m args below meth c sc y d mc ms Φ D ty A q0 h0 Qf) (hP : ∀ x : am_S, P x → am_Wt p l e R s m args below meth c y mc ms D ty A q0 h0 Qf x)  {len : Nat} (hd : decode (am_code y) pc = .ok (.irem, len)) (hn : len = 1)  (hs : am_ex E sc y mc ms Φ P (.irem) a b kf kt tg pc lv st h k n) : am_Wt p l e R s m args below meth c y mc ms D ty A q0 h0 Qf (pc, lv, st, h, k, n) := by
  subst hn
  replace hs : am_i2 st _ := hs
  unfold am_i2 at hs
  split at hs
  · intro q H locs ls g1 g2 g3 g4 g5 g6 g7 g8
    exact lv_irem C.1 C.2.1 hd hs.1 (hP _ (hs.2) q H locs ls g1 g2 g3 g4 g5 (am_has_pick _ g6) g7 g8)
  · exact hs.elim
theorem am_o_ldiv (C : am_Cx p l e R s m args below meth c sc y d mc ms Φ D ty A q0 h0 Qf) (hP : ∀ x : am_S, P x → am_Wt p l e R s m args below meth c y mc ms D ty A q0 h0 Qf x)  {len : Nat} (hd : decode (am_code y) pc = .ok (.ldiv, len)) (hn : len = 1)  (hs : am_ex E sc y mc ms Φ P (.ldiv) a b kf kt tg pc lv st h k n) : am_Wt p l e R s m args below meth c y mc ms D ty A q0 h0 Qf (pc, lv, st, h, k, n) := by
  subst hn
  replace hs : am_l2 st _ := hs
  unfold am_l2 at hs
  split at hs
  · intro q H locs ls g1 g2 g3 g4 g5 g6 g7 g8
    exact lv_ldiv C.1 C.2.1 hd hs.1 (hP _ (hs.2) q H locs ls g1 g2 g3 g4 g5 (am_has_pick _ g6) g7 g8)
  · exact hs.elim
theorem am_o_lrem (C : am_Cx p l e R s m args below meth c sc y d mc ms Φ D ty A q0 h0 Qf) (hP : ∀ x : am_S, P x → am_Wt p l e R s m args below meth c y mc ms D ty A q0 h0 Qf x)  {len : Nat} (hd : decode (am_code y) pc = .ok (.lrem, len)) (hn : len = 1)  (hs : am_ex E sc y mc ms Φ P (.lrem) a b kf kt tg pc lv st h k n) : am_Wt p l e R s m args below meth c y mc ms D ty A q0 h0 Qf (pc, lv, st, h, k, n) := by
  subst hn
  replace hs : am_l2 st _ := hs
  unfold am_l2 at hs
  split at hs
  · intro q H locs ls g1 g2 g3 g4 g5 g6 g7 g8
    exact lv_lrem C.1 C.2.1 hd hs.1 (hP _ (hs.2) q H locs ls g1 g2 g3 g4 g5 (am_has_pick _ g6) g7 g8)
  · exact hs.elim
theorem am_o_ineg (C : am_Cx p l e R s m args below meth c sc y d mc ms Φ D ty A q0 h0 Qf) (hP : ∀ x : am_S, P x → am_Wt p l e R s m args below meth c y mc ms D ty A q0 h0 Qf x)  {len : Nat} (hd : decode (am_code y) pc = .ok (.ineg, len)) (hn : len = 1)  (hs : am_ex E sc y mc ms Φ P (.ineg) a b kf kt tg pc lv st h k n) : am_Wt p l e R s m args below meth c y mc ms D ty A q0 h0 Qf (pc, lv, st, h, k, n) := by
  subst hn
  replace hs : am_i1 st _ := hs
  unfold am_i1 at hs
  split at hs
  · intro q H locs ls g1 g2 g3 g4 g5 g6 g7 g8
    exact lv_ineg C.1 C.2.1 hd (hP _ (hs) q H locs ls g1 g2 g3 g4 g5 (am_has_pick _ g6) g7 g8)
  · exact hs.elim
theorem am_o_i2l (C : am_Cx p l e R s m args below meth c sc y d mc ms Φ D ty A q0 h0 Qf) (hP : ∀ x : am_S, P x → am_Wt p l e R s m args below meth c y mc ms D ty A q0 h0 Qf x)  {len : Nat} (hd : decode (am_code y) pc = .ok (.i2l, len)) (hn : len = 1)  (hs : am_ex E sc y mc ms Φ P (.i2l) a b kf kt tg pc lv st h k n) : am_Wt p l e R s m args below meth c y mc ms D ty A q0 h0 Qf (pc, lv, st, h, k, n) := by
  subst hn
  replace hs : am_i1 st _ := hs
  unfold am_i1 at hs
  split at hs
  · intro q H locs ls g1 g2 g3 g4 g5 g6 g7 g8
    exact lv_i2l C.1 C.2.1 hd rfl (hP _ (hs) q H locs ls g1 g2 g3 g4 g5 (am_has_pick _ g6) g7 g8)
  · exact hs.elim
theorem am_o_l2i (C : am_Cx p l e R s m args below meth c sc y d mc ms Φ D ty A q0 h0 Qf) (hP : ∀ x : am_S, P x → am_Wt p l e R s m args below meth c y mc ms D ty A q0 h0 Qf x)  {len : Nat} (hd : decode (am_code y) pc = .ok (.l2i, len)) (hn : len = 1)  (hs : am_ex E sc y mc ms Φ P (.l2i) a b kf kt tg pc lv st h k n) : am_Wt p l e R s m args below meth c y mc ms D ty A q0 h0 Qf (pc, lv, st, h, k, n) := by
  subst hn
  replace hs : am_l1 st _ := hs
  unfold am_l1 at hs
  split at hs
  · intro q H locs ls g1 g2 g3 g4 g5 g6 g7 g8
    exact lv_l2i C.1 C.2.1 hd rfl (hP _ (hs) q H locs ls g1 g2 g3 g4 g5 (am_has_pick _ g6) g7 g8)
  · exact hs.elim
theorem am_o_i2b (C : am_Cx p l e R s m args below meth c sc y d mc ms Φ D ty A q0 h0 Qf) (hP : ∀ x : am_S, P x → am_Wt p l e R s m args below meth c y mc ms D ty A q0 h0 Qf x)  {len : Nat} (hd : decode (am_code y) pc = .ok (.i2b, len)) (hn : len = 1)  (hs : am_ex E sc y mc ms Φ P (.i2b) a b kf kt tg pc lv st h k n) : am_Wt p l e R s m args below meth c y mc ms D ty A q0 h0 Qf (pc, lv, st, h, k, n) := by
  subst hn
  replace hs : am_i1 st _ := hs
  unfold am_i1 at hs
  split at hs
  · intro q H locs ls g1 g2 g3 g4 g5 g6 g7 g8
    exact lv_i2b C.1 C.2.1 hd rfl (hP _ (hs) q H locs ls g1 g2 g3 g4 g5 (am_has_pick _ g6) g7 g8)
  · exact hs.elim
theorem am_o_i2s (C : am_Cx p l e R s m args below meth c sc y d mc ms Φ D ty A q0 h0 Qf) (hP : ∀ x : am_S, P x → am_Wt p l e R s m args below meth c y mc ms D ty A q0 h0 Qf x)  {len : Nat} (hd : decode (am_code y) pc = .ok (.i2s, len)) (hn : len = 1)  (hs : am_ex E sc y mc ms Φ P (.i2s) a b kf kt tg pc lv st h k n) : am_Wt p l e R s m args below meth c y mc ms D ty A q0 h0 Qf (pc, lv, st, h, k, n) := by
  subst hn
  replace hs : am_i1 st _ := hs
  unfold am_i1 at hs
  split at hs
  · intro q H locs ls g1 g2 g3 g4 g5 g6 g7 g8
    exact lv_i2s C.1 C.2.1 hd rfl (hP _ (hs) q H locs ls g1 g2 g3 g4 g5 (am_has_pick _ g6) g7 g8)
  · exact hs.elim
theorem am_o_i2c (C : am_Cx p l e R s m args below meth c sc y d mc ms Φ D ty A q0 h0 Qf) (hP : ∀ x : am_S, P x → am_Wt p l e R s m args below meth c y mc ms D ty A q0 h0 Qf x)  {len : Nat} (hd : decode (am_code y) pc = .ok (.i2c, len)) (hn : len = 1)  (hs : am_ex E sc y mc ms Φ P (.i2c) a b kf kt tg pc lv st h k n) : am_Wt p l e R s m args below meth c y mc ms D ty A q0 h0 Qf (pc, lv, st, h, k, n) := by
  subst hn
  replace hs : am_i1 st _ := hs
  unfold am_i1 at hs
  split at hs
  · intro q H locs ls g1 g2 g3 g4 g5 g6 g7 g8
    exact lv_i2c C.1 C.2.1 hd rfl (hP _ (hs) q H locs ls g1 g2 g3 g4 g5 (am_has_pick _ g6) g7 g8)
  · exact hs.elim
theorem am_o_dup (C : am_Cx p l e R s m args below meth c sc y d mc ms Φ D ty A q0 h0 Qf) (hP : ∀ x : am_S, P x → am_Wt p l e R s m args below meth c y mc ms D ty A q0 h0 Qf x)  {len : Nat} (hd : decode (am_code y) pc = .ok (.dup, len)) (hn : len = 1)  (hs : am_ex E sc y mc ms Φ P (.dup) a b kf kt tg pc lv st h k n) : am_Wt p l e R s m args below meth c y mc ms D ty A q0 h0 Qf (pc, lv, st, h, k, n) := by
  subst hn
  replace hs : am_b _ (am_ov st.head? _) := hs
  unfold am_b at hs
  split at hs
  · rename_i hb
    unfold am_ov at hs
    split at hs
    · rename_i v hv
      obtain ⟨r, rfl⟩ : ∃ r, st = v :: r := by
        cases st with
        | nil => cases hv
        | cons w r => cases hv; exact ⟨r, rfl⟩
      intro q H locs ls g1 g2 g3 g4 g5 g6 g7 g8
      exact lv_dup C.1 C.2.1 hd (by rw [am_rv_cat]; exact Nat.eq_of_beq_eq_true hb) (hP _ (hs) q H locs ls g1 g2 g3 g4 g5 (am_has_pick _ g6) g7 g8)
    · exact hs.elim
  · exact hs.elim
theorem am_o_dup2 (C : am_Cx p l e R s m args below meth c sc y d mc ms Φ D ty A q0 h0 Qf) (hP : ∀ x : am_S, P x → am_Wt p l e R s m args below meth c y mc ms D ty A q0 h0 Qf x)  {len : Nat} (hd : decode (am_code y) pc = .ok (.dup2, len)) (hn : len = 1)  (hs : am_ex E sc y mc ms Φ P (.dup2) a b kf kt tg pc lv st h k n) : am_Wt p l e R s m args below meth c y mc ms D ty A q0 h0 Qf (pc, lv, st, h, k, n) := by
  subst hn
  replace hs : am_ov st.head? _ := hs
  cases st with
  | nil => exact hs.elim
  | cons v r0 => cases r0 with
    | nil => exact hs.elim
    | cons w r =>
      replace hs : am_b (Nat.beq v.category 1 && Nat.beq w.category 1) _ := hs
      unfold am_b at hs
      split at hs
      · rename_i hb
        simp only [Bool.and_eq_true] at hb
        intro q H locs ls g1 g2 g3 g4 g5 g6 g7 g8
        exact lv_dup2_11 C.1 C.2.1 hd (by rw [am_rv_cat]; exact Nat.eq_of_beq_eq_true hb.1) (by rw [am_rv_cat]; exact Nat.eq_of_beq_eq_true hb.2) (hP _ (hs) q H locs ls g1 g2 g3 g4 g5 (am_has_pick _ g6) g7 g8)
      · exact hs.elim
theorem am_o_pop (C : am_Cx p l e R s m args below meth c sc y d mc ms Φ D ty A q0 h0 Qf) (hP : ∀ x : am_S, P x → am_Wt p l e R s m args below meth c y mc ms D ty A q0 h0 Qf x)  {len : Nat} (hd : decode (am_code y) pc = .ok (.pop, len)) (hn : len = 1)  (hs : am_ex E sc y mc ms Φ P (.pop) a b kf kt tg pc lv st h k n) : am_Wt p l e R s m args below meth c y mc ms D ty A q0 h0 Qf (pc, lv, st, h, k, n) := by
  subst hn
  cases st with
  | nil => exact False.elim hs
  | cons v r =>
    replace hs : am_b (Nat.beq v.category 1) _ := hs
    unfold am_b at hs
    split at hs
    · rename_i hb
      intro q H locs ls g1 g2 g3 g4 g5 g6 g7 g8
      exact lv_pop C.1 C.2.1 hd (by rw [am_rv_cat]; exact Nat.eq_of_beq_eq_true hb) (hP _ (hs) q H locs ls g1 g2 g3 g4 g5 (am_has_pick _ g6) g7 g8)
    · exact hs.elim
theorem am_o_goto (C : am_Cx p l e R s m args below meth c sc y d mc ms Φ D ty A q0 h0 Qf) (hP : ∀ x : am_S, P x → am_Wt p l e R s m args below meth c y mc ms D ty A q0 h0 Qf x) {off : Int} {len : Nat} (hd : decode (am_code y) pc = .ok (.goto off, len)) (hn : len = 3) (ht : (pc : Int) + off = (a : Int)) (hs : am_ex E sc y mc ms Φ P (.goto off) a b kf kt tg pc lv st h k n) : am_Wt p l e R s m args below meth c y mc ms D ty A q0 h0 Qf (pc, lv, st, h, k, n) := by
  subst hn
  replace hs : P _ := hs
  intro q H locs ls g1 g2 g3 g4 g5 g6 g7 g8
  exact lv_goto C.1 C.2.1 hd ht (hP _ (hs) q H locs ls g1 g2 g3 g4 g5 (am_has_pick _ g6) g7 g8)
theorem am_o_ifCond (C : am_Cx p l e R s m args below meth c sc y d mc ms Φ D ty A q0 h0 Qf) (hP : ∀ x : am_S, P x → am_Wt p l e R s m args below meth c y mc ms D ty A q0 h0 Qf x) {cc : Jvm.ClassFile.Cond} {off : Int} {len : Nat} (hd : decode (am_code y) pc = .ok (.ifCond cc off, len)) (hn : len = 3) (ht : (pc : Int) + off = (a : Int)) (hs : am_ex E sc y mc ms Φ P (.ifCond cc off) a b kf kt tg pc lv st h k n) : am_Wt p l e R s m args below meth c y mc ms D ty A q0 h0 Qf (pc, lv, st, h, k, n) := by
  subst hn
  replace hs : am_i1 st _ := hs
  unfold am_i1 at hs
  split at hs
  · cases cc
    · intro q H locs ls g1 g2 g3 g4 g5 g6 g7 g8
      exact lv_if_eq C.1 C.2.1 hd ht (fun w => (hP _ (hs.1 w) q H locs ls g1 g2 g3 g4 g5 (am_has_pick _ g6) g7 g8)) (fun w => (hP _ (hs.2 w) q H locs ls g1 g2 g3 g4 g5 (am_has_pick _ g6) g7 g8))
    · intro q H locs ls g1 g2 g3 g4 g5 g6 g7 g8
      exact lv_if_ne C.1 C.2.1 hd ht (fun w => (hP _ (hs.1 w) q H locs ls g1 g2 g3 g4 g5 (am_has_pick _ g6) g7 g8)) (fun w => (hP _ (hs.2 w) q H locs ls g1 g2 g3 g4 g5 (am_has_pick _ g6) g7 g8))
    · intro q H locs ls g1 g2 g3 g4 g5 g6 g7 g8
      exact lv_if_lt C.1 C.2.1 hd ht (fun w => (hP _ (hs.1 w) q H locs ls g1 g2 g3 g4 g5 (am_has_pick _ g6) g7 g8)) (fun w => (hP _ (hs.2 w) q H locs ls g1 g2 g3 g4 g5 (am_has_pick _ g6) g7 g8))
    · intro q H locs ls g1 g2 g3 g4 g5 g6 g7 g8
      exact lv_if_ge C.1 C.2.1 hd ht (fun w => (hP _ (hs.1 w) q H locs ls g1 g2 g3 g4 g5 (am_has_pick _ g6) g7 g8)) (fun w => (hP _ (hs.2 w) q H locs ls g1 g2 g3 g4 g5 (am_has_pick _ g6) g7 g8))
    · intro q H locs ls g1 g2 g3 g4 g5 g6 g7 g8
      exact lv_if_gt C.1 C.2.1 hd ht (fun w => (hP _ (hs.1 w) q H locs ls g1 g2 g3 g4 g5 (am_has_pick _ g6) g7 g8)) (fun w => (hP _ (hs.2 w) q H locs ls g1 g2 g3 g4 g5 (am_has_pick _ g6) g7 g8))
    · intro q H locs ls g1 g2 g3 g4 g5 g6 g7 g8
      exact lv_if_le C.1 C.2.1 hd ht (fun w => (hP _ (hs.1 w) q H locs ls g1 g2 g3 g4 g5 (am_has_pick _ g6) g7 g8)) (fun w => (hP _ (hs.2 w) q H locs ls g1 g2 g3 g4 g5 (am_has_pick _ g6) g7 g8))
  · exact hs.elim
theorem am_o_if_icmp (C : am_Cx p l e R s m args below meth c sc y d mc ms Φ D ty A q0 h0 Qf) (hP : ∀ x : am_S, P x → am_Wt p l e R s m args below meth c y mc ms D ty A q0 h0 Qf x) {cc : Jvm.ClassFile.Cond} {off : Int} {len : Nat} (hd : decode (am_code y) pc = .ok (.if_icmp cc off, len)) (hn : len = 3) (ht : (pc : Int) + off = (a : Int)) (hs : am_ex E sc y mc ms Φ P (.if_icmp cc off) a b kf kt tg pc lv st h k n) : am_Wt p l e R s m args below meth c y mc ms D ty A q0 h0 Qf (pc, lv, st, h, k, n) := by
  subst hn
  replace hs : am_i2 st _ := hs
  unfold am_i2 at hs
  split at hs
  · cases cc
    · intro q H locs ls g1 g2 g3 g4 g5 g6 g7 g8
      exact lv_icmp_eq C.1 C.2.1 hd ht (fun w => (hP _ (hs.1 w) q H locs ls g1 g2 g3 g4 g5 (am_has_pick _ g6) g7 g8)) (fun w => (hP _ (hs.2 w) q H locs ls g1 g2 g3 g4 g5 (am_has_pick _ g6) g7 g8))
    · intro q H locs ls g1 g2 g3 g4 g5 g6 g7 g8
      exact lv_icmp_ne C.1 C.2.1 hd ht (fun w => (hP _ (hs.1 w) q H locs ls g1 g2 g3 g4 g5 (am_has_pick _ g6) g7 g8)) (fun w => (hP _ (hs.2 w) q H locs ls g1 g2 g3 g4 g5 (am_has_pick _ g6) g7 g8))
    · intro q H locs ls g1 g2 g3 g4 g5 g6 g7 g8
      exact lv_icmp_lt C.1 C.2.1 hd ht (fun w => (hP _ (hs.1 w) q H locs ls g1 g2 g3 g4 g5 (am_has_pick _ g6) g7 g8)) (fun w => (hP _ (hs.2 w) q H locs ls g1 g2 g3 g4 g5 (am_has_pick _ g6) g7 g8))
    · intro q H locs ls g1 g2 g3 g4 g5 g6 g7 g8
      exact lv_icmp_ge C.1 C.2.1 hd ht (fun w => (hP _ (hs.1 w) q H locs ls g1 g2 g3 g4 g5 (am_has_pick _ g6) g7 g8)) (fun w => (hP _ (hs.2 w) q H locs ls g1 g2 g3 g4 g5 (am_has_pick _ g6) g7 g8))
    · intro q H locs ls g1 g2 g3 g4 g5 g6 g7 g8
      exact lv_icmp_gt C.1 C.2.1 hd ht (fun w => (hP _ (hs.1 w) q H locs ls g1 g2 g3 g4 g5 (am_has_pick _ g6) g7 g8)) (fun w => (hP _ (hs.2 w) q H locs ls g1 g2 g3 g4 g5 (am_has_pick _ g6) g7 g8))
    · intro q H locs ls g1 g2 g3 g4 g5 g6 g7 g8
      exact lv_icmp_le C.1 C.2.1 hd ht (fun w => (hP _ (hs.1 w) q H locs ls g1 g2 g3 g4 g5 (am_has_pick _ g6) g7 g8)) (fun w => (hP _ (hs.2 w) q H locs ls g1 g2 g3 g4 g5 (am_has_pick _ g6) g7 g8))
  · exact hs.elim
theorem am_o_ifnull (C : am_Cx p l e R s m args below meth c sc y d mc ms Φ D ty A q0 h0 Qf) (hP : ∀ x : am_S, P x → am_Wt p l e R s m args below meth c y mc ms D ty A q0 h0 Qf x) {off : Int} {len : Nat} (hd : decode (am_code y) pc = .ok (.ifnull off, len)) (hn : len = 3) (ht : (pc : Int) + off = (a : Int)) (hs : am_ex E sc y mc ms Φ P (.ifnull off) a b kf kt tg pc lv st h k n) : am_Wt p l e R s m args below meth c y mc ms D ty A q0 h0 Qf (pc, lv, st, h, k, n) := by
  subst hn
  cases st with
  | nil => exact False.elim hs
  | cons v r => cases v with
    | null =>
      replace hs : P _ := hs
      intro q H locs ls g1 g2 g3 g4 g5 g6 g7 g8
      exact lv_ifnullN C.1 C.2.1 hd ht (hP _ (hs) q H locs ls g1 g2 g3 g4 g5 (am_has_pick _ g6) g7 g8)
    | ref o =>
      replace hs : P _ := hs
      intro q H locs ls g1 g2 g3 g4 g5 g6 g7 g8
      exact lv_ifnull C.1 C.2.1 hd (hP _ (hs) q H locs ls g1 g2 g3 g4 g5 (am_has_pick _ g6) g7 g8)
    | _ => exact False.elim hs
theorem am_o_ifnonnull (C : am_Cx p l e R s m args below meth c sc y d mc ms Φ D ty A q0 h0 Qf) (hP : ∀ x : am_S, P x → am_Wt p l e R s m args below meth c y mc ms D ty A q0 h0 Qf x) {off : Int} {len : Nat} (hd : decode (am_code y) pc = .ok (.ifnonnull off, len)) (hn : len = 3) (ht : (pc : Int) + off = (a : Int)) (hs : am_ex E sc y mc ms Φ P (.ifnonnull off) a b kf kt tg pc lv st h k n) : am_Wt p l e R s m args below meth c y mc ms D ty A q0 h0 Qf (pc, lv, st, h, k, n) := by
  subst hn
  cases st with
  | nil => exact False.elim hs
  | cons v r => cases v with
    | null =>
      replace hs : P _ := hs
      intro q H locs ls g1 g2 g3 g4 g5 g6 g7 g8
      exact lv_ifnonnullN C.1 C.2.1 hd (hP _ (hs) q H locs ls g1 g2 g3 g4 g5 (am_has_pick _ g6) g7 g8)
    | ref o =>
      replace hs : P _ := hs
      intro q H locs ls g1 g2 g3 g4 g5 g6 g7 g8
      exact lv_ifnonnull C.1 C.2.1 hd ht (hP _ (hs) q H locs ls g1 g2 g3 g4 g5 (am_has_pick _ g6) g7 g8)
    | _ => exact False.elim hs
end OPS
end
section
-- a row of the printed NAMES text: new T[n][m] (its word of the tables told directly)
/-! ===== BEGIN new T[n][m]: the outer array a place, the inner ones among the pooled ===== -/
/-- f, but v at every address of l -/
def vr_up {α : Type} (f : Nat → α) (l : List Nat) (v : α) : Nat → α := fun a => if a ∈ l then v else f a
theorem vr_up_in {α : Type} {f : Nat → α} {l : List Nat} {v : α} {a : Nat} (h : a ∈ l) : vr_up f l v a = v := if_pos h
theorem vr_up_ne {α : Type} {f : Nat → α} {l : List Nat} {v : α} {a : Nat} (h : a ∉ l) : vr_up f l v a = f a := if_neg h
theorem vr_rows {L l : List Nat} {f : Nat → va_E} {e : va_E} (h : ∀ a, a ∈ l → a ∉ L) : va_pl L f ++ l.map (fun a => (a, e)) = va_pl (L ++ l) (vr_up f l e) := by
  unfold va_pl
  rw [List.map_append]
  congr 1
  · apply List.map_congr_left
    intro a ha
    rw [vr_up_ne (fun q => h a q ha)]
  · apply List.map_congr_left
    intro a ha
    rw [vr_up_in ha]
theorem vr_lay {X rows : va_W} {x : Nat × va_E} {pl : va_W} {D : va_G} {cl : List vw_C} {H : Heap} (hP : va_P D cl (((X ++ pl) ++ [x]) ++ rows) H) : va_P D cl ((X ++ [x]) ++ (pl ++ rows)) H := by
  rw [List.append_assoc (X ++ pl)] at hP
  have h := va_P.swap hP
  rw [← List.append_assoc X] at h
  have h2 := va_P.swap h
  rw [List.append_assoc (X ++ [x])] at h2
  exact h2
theorem vr_layD {X rows : va_W} {x : Nat × va_E} {pl : va_W} {A : Nat → Prop} (hD : va_D A (((X ++ pl) ++ [x]) ++ rows)) : va_D A ((X ++ [x]) ++ (pl ++ rows)) := by
  rw [List.append_assoc (X ++ pl)] at hD
  have h := va_D.swap hD
  rw [← List.append_assoc X] at h
  have h2 := va_D.swap h
  rw [List.append_assoc (X ++ [x])] at h2
  exact h2
theorem vr_outer (c : ClassId) (N h0 : Nat) : ∀ i : Nat, Jvm.Free.Multi.outerC c N h0 i = arrV c N (fun j => va_rf (if j < i then some (h0 + 1 + j) else none))
  | 0 => by
    show ({ cls := c, slots := Array.replicate N .null, vm := .none } : Cell) = _
    rw [arrV_new]
    refine congrArg (arrV c N) (funext fun j => ?_)
    simp [va_rf]
  | i + 1 => by
    show (Jvm.Free.Multi.outerC c N h0 i).setSlot i (.ref (h0 + 1 + i)) = _
    rw [vr_outer c N h0 i, arrV_store]
    refine congrArg (arrV c N) (funext fun j => ?_)
    by_cases e : j = i
    · subst e
      simp [updV, va_rf]
    · by_cases h : j < i
      · simp [updV, e, h, Nat.lt_succ_of_lt h]
      · simp [updV, e, h, show ¬ j < i + 1 by omega]
section VGM
variable {p : Program} {l : Launch} {e : Env} {R : Room} {s : State} {m : MethodId} {args : Array Value} {below : List Frame} {meth : Method} {c : Code} {H : Heap} {locs : List Loc} {cells slots : Nat} {Q : State → Prop}
variable {cc : ByteArray} {pc : Nat} {ls : Array Slot} {rest : List Value} {D : va_G} {cl : List vw_C} {A : Nat → Prop} {a : Nat} {tys : List (ClassId × FieldType)} {ws : va_W} {H0 : Heap}
theorem va_mna {X : va_W} {L : List Nat} {f : Nat → va_E} {cc : ByteArray} (hexec : p.tables.exec = Jvm.exec) (hb : c.code = cc) {own : String} {index : Nat} {ty : FieldType} {cy : ClassId} (hown : s.vm.findClass own = some m.cls) (hclink : (Cond.classLink own index ("[" ++ (FieldType.array ty).toString)).before args s = true) (hover : (Jvm.Cond.arrayOver (.array ty)).before args s = true) (harr : (Cond.arrayClass ty).before args s = true) (hcy : s.vm.findClass (FieldType.array ty).toString = some cy)
    (hK : va_K D cl tys s) (hP : va_P D cl (X ++ va_pl L f) H) (hD : va_D A (X ++ va_pl L f)) (hS : va_S A H0 H locs) (hA : ∀ q, H0.size ≤ q → A q) {n k : Int32} {N' K' : Nat} {z : vp_A} (hn : ¬ n < 0) (hk : ¬ k < 0) (hN : n.toNatClampNeg = N') (hM : k.toNatClampNeg = K')
    (hb1 : N' * 4 ≤ 536870912) (hb2 : K' * componentBytes ty ≤ 536870912) (hb3 : K' ≤ 536870912) (hdf : fits ty (defaultValue ty) = true) (hdd : (defaultValue ty).isDefault = true) (hcells : cells + (1 + N') ≤ R.cells) (hslots : slots + (N' + N' * K') ≤ R.slots) (hz : ∀ c : ClassId, Jvm.Free.Multi.innerC c K' (defaultValue ty) = vp_cell c z) (hdg : decode cc pc = .ok (.multianewarray index 2, 4))
    (kk : ∀ (q : Nat) (r : Nat → Nat) (cA : ClassId) (H1 : Heap), (∀ i j : Nat, i < N' → j < N' → r i = r j → i = j) → (∀ i : Nat, i < N' → r i ∉ L) → va_K D cl (tys ++ [(cA, .array ty)]) s →
      va_P D cl ((X ++ [(q, .inl (cA, N', .inr (.inr (.inr (.inr (fun i => if i < N' then some (r i) else none))))))]) ++ va_pl (L ++ (List.range N').map r) (vr_up f ((List.range N').map r) (.inl (cy, z)))) H1 → va_D A ((X ++ [(q, .inl (cA, N', .inr (.inr (.inr (.inr (fun i => if i < N' then some (r i) else none))))))]) ++ va_pl (L ++ (List.range N').map r) (vr_up f ((List.range N').map r) (.inl (cy, z)))) → va_S A H0 H1 locs →
      W p l e R s m args below meth c H1 locs (cells + 1 + N') (slots + N' + N' * K') Q (F0 m (pc + 4) ls (.ref q :: rest))) : W p l e R s m args below meth c H locs cells slots Q (F0 m pc ls (.int k :: .int n :: rest)) := by
  subst hN
  subst hM
  intro T hT Xs
  obtain ⟨vm₁, cA, comp, -, fA, fC, hO, -, X', step⟩ := Xs.multianewarray2F hexec hown hclink hover harr (g := F0 m pc ls (.int k :: .int n :: rest)) rfl (by rw [hb]; exact hdg) rfl hn hk hb1 hb2 hb3 hdf hdd hcells hslots
  have ec : some cy = some comp := hcy.symm.trans fC
  cases ec
  generalize hF : Jvm.Free.Multi.fill (T.setVm vm₁) cA cy n.toNatClampNeg k.toNatClampNeg (defaultValue ty) n.toNatClampNeg = F at X' step
  have hTh : (T.setVm vm₁).heap = H := hT
  obtain ⟨f1, f2, -, -⟩ := Jvm.Free.Multi.fill_facts (T.setVm vm₁) cA cy n.toNatClampNeg k.toNatClampNeg (defaultValue ty) n.toNatClampNeg
  rw [hF, hTh] at f1 f2
  have hold : ∀ x : Nat, x < H.size → F.heap[x]? = H[x]? := fun x hx => by
    have := Jvm.Free.Multi.fill_old (T.setVm vm₁) cA cy n.toNatClampNeg k.toNatClampNeg (defaultValue ty) (a := x) (by rw [hTh]; exact hx) n.toNatClampNeg
    rw [hF, hTh] at this
    exact this
  have hrow : ∀ j : Nat, j < n.toNatClampNeg → F.heap[H.size + 1 + j]? = some (vp_cell cy z) := fun j hj => by
    have := Jvm.Free.Multi.fill_inner (T.setVm vm₁) cA cy n.toNatClampNeg k.toNatClampNeg (defaultValue ty) n.toNatClampNeg j hj
    rw [hF, hTh, hz] at this
    exact this
  have hout : Jvm.Free.Multi.outerC cA n.toNatClampNeg H.size n.toNatClampNeg = vp_cell cA (n.toNatClampNeg, .inr (.inr (.inr (.inr (fun i => if i < n.toNatClampNeg then some (H.size + 1 + i) else none))))) := by
    rw [vp_cell_q]
    exact vr_outer cA n.toNatClampNeg H.size n.toNatClampNeg
  rw [hout] at f2
  have hlt : ∀ a, a ∈ L → a < H.size := fun a ha => by
    obtain ⟨k9, hk9⟩ := va_pl_get (X := X) (f := f) ha
    exact (hP k9 _ hk9).lt
  have hnl : ∀ i : Nat, i < n.toNatClampNeg → H.size + 1 + i ∉ L := fun i _ h => by
    have := hlt _ h
    omega
  have hnm : ∀ a, a ∈ (List.range n.toNatClampNeg).map (fun i => H.size + 1 + i) → a ∉ L := fun a ha h => by
    obtain ⟨i, -, rfl⟩ := List.mem_map.mp ha
    have := hlt _ h
    omega
  have hP0 : va_P D cl (X ++ va_pl L f) F.heap := hP.kept (fun k9 x hx => hold x.1 ((hP k9 x hx).lt))
  have hP1 : va_P D cl ((X ++ va_pl L f) ++ [(H.size, .inl (cA, n.toNatClampNeg, .inr (.inr (.inr (.inr (fun i => if i < n.toNatClampNeg then some (H.size + 1 + i) else none))))))]) F.heap := hP0.app (fun k9 x hx => by
    have h0 : k9 < 1 := (List.getElem?_eq_some_iff.mp hx).1
    rw [show k9 = 0 by omega] at hx
    cases hx
    exact f2)
  have hP2 : va_P D cl (((X ++ va_pl L f) ++ [(H.size, .inl (cA, n.toNatClampNeg, .inr (.inr (.inr (.inr (fun i => if i < n.toNatClampNeg then some (H.size + 1 + i) else none))))))]) ++ ((List.range n.toNatClampNeg).map (fun i => H.size + 1 + i)).map (fun a => (a, .inl (cy, z)))) F.heap := hP1.app (fun k9 x hx => by
    obtain ⟨a, ha, rfl⟩ := List.mem_map.mp (List.mem_of_getElem? hx)
    obtain ⟨i, hi, rfl⟩ := List.mem_map.mp ha
    exact hrow i (List.mem_range.mp hi))
  have hD2 : va_D A (((X ++ va_pl L f) ++ [(H.size, .inl (cA, n.toNatClampNeg, .inr (.inr (.inr (.inr (fun i => if i < n.toNatClampNeg then some (H.size + 1 + i) else none))))))]) ++ ((List.range n.toNatClampNeg).map (fun i => H.size + 1 + i)).map (fun a => (a, .inl (cy, z)))) := by
    have hD1 := hD.push (e := .inl (cA, n.toNatClampNeg, .inr (.inr (.inr (.inr (fun i => if i < n.toNatClampNeg then some (H.size + 1 + i) else none)))))) hP rfl (hA _ hS.1)
    generalize hW1 : (X ++ va_pl L f) ++ [(H.size, .inl (cA, n.toNatClampNeg, .inr (.inr (.inr (.inr (fun i => if i < n.toNatClampNeg then some (H.size + 1 + i) else none))))))] = W1 at hD1 hP1 ⊢
    have hle : ∀ (k9 : Nat) (x : Nat × va_E), W1[k9]? = some x → x.1 ≤ H.size := fun k9 x hx => by
      rw [← hW1] at hx
      by_cases hl : k9 < (X ++ va_pl L f).length
      · rw [List.getElem?_append_left hl] at hx
        exact Nat.le_of_lt ((hP k9 x hx).lt)
      · rw [List.getElem?_append_right (by omega)] at hx
        have h0 : k9 - (X ++ va_pl L f).length < 1 := (List.getElem?_eq_some_iff.mp hx).1
        rw [show k9 - (X ++ va_pl L f).length = 0 by omega] at hx
        cases hx
        exact Nat.le_refl _
    have hr : ∀ (k9 : Nat) (x : Nat × va_E), (((List.range n.toNatClampNeg).map (fun i => H.size + 1 + i)).map (fun a => ((a, .inl (cy, z)) : Nat × va_E)))[k9]? = some x → x.1 = H.size + 1 + k9 := fun k9 x hx => by
      rw [List.getElem?_map, List.getElem?_map] at hx
      by_cases h9 : k9 < n.toNatClampNeg
      · rw [List.getElem?_range h9] at hx
        cases hx
        rfl
      · have hn0 : (List.range n.toNatClampNeg)[k9]? = none := List.getElem?_eq_none (by rw [List.length_range]; omega)
        rw [hn0] at hx
        cases hx
    refine ⟨fun i j x y hi hj hxy => ?_, fun k9 x hx => ?_⟩
    · by_cases h1 : i < W1.length <;> by_cases h2 : j < W1.length
      · rw [List.getElem?_append_left h1] at hi
        rw [List.getElem?_append_left h2] at hj
        exact hD1.1 i j x y hi hj hxy
      · rw [List.getElem?_append_left h1] at hi
        rw [List.getElem?_append_right (by omega)] at hj
        have := hle _ _ hi
        have := hr _ _ hj
        omega
      · rw [List.getElem?_append_right (by omega)] at hi
        rw [List.getElem?_append_left h2] at hj
        have := hle _ _ hj
        have := hr _ _ hi
        omega
      · rw [List.getElem?_append_right (by omega)] at hi hj
        have := hr _ _ hi
        have := hr _ _ hj
        omega
    · by_cases h1 : k9 < W1.length
      · rw [List.getElem?_append_left h1] at hx
        exact hD1.2 k9 x hx
      · rw [List.getElem?_append_right (by omega)] at hx
        have := hr _ _ hx
        exact hA _ (by have := hS.1; omega)
  have hAr : ArrOfT s cA (.array ty) := fun N9 z9 => by
    obtain ⟨-, k9, hk9, cm9, hkk9⟩ := (hO 0 0 0).1
    exact ⟨(fun q hq => by cases hq), k9, hk9, cm9, hkk9⟩
  have hK2 : va_K D cl (tys ++ [(cA, .array ty)]) s := ⟨hK.1, fun k9 x hx => by
    by_cases hl : k9 < tys.length
    · rw [List.getElem?_append_left hl] at hx
      exact hK.2 k9 x hx
    · rw [List.getElem?_append_right (by omega)] at hx
      have h0 : k9 - tys.length < 1 := (List.getElem?_eq_some_iff.mp hx).1
      rw [show k9 - tys.length = 0 by omega] at hx
      cases hx
      exact ⟨hAr, fA⟩⟩
  obtain ⟨t, a1, b1⟩ := kk H.size (fun i => H.size + 1 + i) cA F.heap (fun i j _ _ h => by have h9 : H.size + 1 + i = H.size + 1 + j := h; omega) hnl hK2 (by rw [← vr_rows hnm]; exact vr_lay hP2) (by rw [← vr_rows hnm]; exact vr_layD hD2) ⟨by rw [f1]; have := hS.1; omega, fun x h1 h2 => (hold x (Nat.lt_of_lt_of_le h1 hS.1)).trans (hS.2.1 x h1 h2), hS.2.2⟩ F rfl X'
  refine ⟨t, step t ?_, b1⟩
  have e : T.heap.size = H.size := by rw [hT]
  rw [e]
  exact a1
end VGM
end
section
/-! ===== fields, arrays, new objects, ends ===== -/
theorem am_sp {o p : Nat} (h1 : p ≤ o) (h2 : o ≤ p + 6) : ∃ i9 : Nat, i9 < 7 ∧ o = p + i9 := ⟨o - p, by omega, by omega⟩
theorem am_sv (i : Nat) : am_pS + i + 1000 = am_pV + i := by unfold am_pV; omega
theorem am_cl_get {ci : Nat} (hc : ci < 9) : vwCl[ci]? = some (am_R ci, am_T ci, am_Nf ci) := by
  match ci, hc with
  | 0, _ => rfl
  | 1, _ => rfl
  | 2, _ => rfl
  | 3, _ => rfl
  | 4, _ => rfl
  | 5, _ => rfl
  | 6, _ => rfl
  | 7, _ => rfl
  | 8, _ => rfl
theorem am_cl_in {ci : Nat} (hc : ci < 9) : ∀ w ∈ u_ws (am_R ci) (am_T ci) (am_Nf ci), w ∈ wt_tbl := by
  match ci, hc with
  | 0, _ => exact inX0
  | 1, _ => exact inX2
  | 2, _ => exact inX3
  | 3, _ => exact inX4
  | 4, _ => exact inX5
  | 5, _ => exact inX6
  | 6, _ => exact inX7
  | 7, _ => exact inJ4
  | 8, _ => exact inJ0
theorem am_cl_good {C : String} {T : u_T} {N : Nat} : ∀ w ∈ u_ws C T N, goodWord w = true := by
  intro w hw
  obtain ⟨k, -, rfl⟩ := List.mem_map.mp hw
  unfold u_lay
  split <;> rfl
theorem am_ty_ok {ci : Nat} (hc : ci < 9) : ∀ k, k < am_Nf ci → parseFieldDescriptor (am_T ci k).2.2.1 = some (am_ty ci k) := by
  match ci, hc with
  | 0, _ => exact tyX0_ok
  | 1, _ => exact tyX2_ok
  | 2, _ => exact tyX3_ok
  | 3, _ => exact tyX4_ok
  | 4, _ => exact tyX5_ok
  | 5, _ => exact tyX6_ok
  | 6, _ => exact tyX7_ok
  | 7, _ => exact tyJ4_ok
  | 8, _ => exact tyJ0_ok
theorem am_nm_ok {ci : Nat} (hc : ci < 9) : ∀ a, a < am_Nf ci → ∀ b, b < am_Nf ci → a ≠ b → (am_T ci a).2.1 ≠ (am_T ci b).2.1 := by
  match ci, hc with
  | 0, _ => exact nmX0
  | 1, _ => exact nmX2
  | 2, _ => exact nmX3
  | 3, _ => exact nmX4
  | 4, _ => exact nmX5
  | 5, _ => exact nmX6
  | 6, _ => exact nmX7
  | 7, _ => exact nmJ4
  | 8, _ => exact nmJ0
theorem am_fits_rv {q : Nat → Nat} {t : FieldType} {v : Value} (h : fits t v = true) : fits t (am_rv q v) = true := by
  cases v with
  | ref a => cases t <;> first | rfl | cases h
  | _ => exact h
theorem am_narrow_rv {q : Nat → Nat} {t : FieldType} {v : Value} (h : narrow t v = v) : narrow t (am_rv q v) = am_rv q v := by
  cases v with
  | ref a => cases t <;> rfl
  | _ => exact h
theorem am_tys_uniq {D : va_G} {ty : Nat → ClassId} {s : State} {cA : ClassId} {t : FieldType} {k : Nat} (hK : va_K D vwCl (am_tys ty) s) (hk : (am_tys ty)[k]? = some (ty k, t)) (hK2 : va_K D vwCl (am_tys ty ++ [(cA, t)]) s) : cA = ty k := by
  have h1 := (hK.2 k _ hk).2
  have h2 := (hK2.2 (am_tys ty).length (cA, t) (by simp)).2
  cases t with
  | object C =>
    obtain ⟨-, -, -, -, -, e1⟩ := h1
    obtain ⟨-, -, -, -, -, e2⟩ := h2
    exact Option.some.inj (e2.symm.trans e1)
  | _ => exact Option.some.inj (h2.symm.trans h1)
section OPS
variable {p : Program} {l : Launch} {e : Env} {R : Room} {s : State} {m : MethodId} {args : Array Value} {below : List Frame} {meth : Method} {c : Code} {sc : Option (Nat × (Nat → Int32))} {y d mc ms : Nat} {Φ : Option Value → am_H → Prop} {D : va_G} {ty : Nat → ClassId} {A : Nat → Prop} {q0 : Nat → Nat} {h0 : am_H} {Qf : State → Prop}
variable {E : am_E} {P : am_S → Prop} {pc a b k n : Nat} {kf kt : Option (List Nat)} {tg : List (Nat × List Nat)} {lv : am_L} {st : List Value} {h : am_H}
theorem am_o_getfield (C : am_Cx p l e R s m args below meth c sc y d mc ms Φ D ty A q0 h0 Qf) (hP : ∀ x : am_S, P x → am_Wt p l e R s m args below meth c y mc ms D ty A q0 h0 Qf x) {idx : Nat} {len : Nat} (hd : decode (am_code y) pc = .ok (.getfield idx, len)) (hn : len = 3) (hc : a < 9) (hb9 : b < am_Nf a) (hw : Jvm.Cond.fieldLink (am_nm y).cls idx (am_T a b).1 (am_T a b).2.1 (am_T a b).2.2.1 ∈ wt_tbl) (hs : am_ex E sc y mc ms Φ P (.getfield idx) a b kf kt tg pc lv st h k n) : am_Wt p l e R s m args below meth c y mc ms D ty A q0 h0 Qf (pc, lv, st, h, k, n) := by
  subst hn
  replace hs : am_r1 st _ := hs
  unfold am_r1 at hs
  split at hs
  · rename_i o r
    cases ha9 : (Nat.beq a 8 && Nat.ble am_pS o) with
    | true =>
      rw [ha9] at hs
      dsimp only at hs
      simp only [Bool.and_eq_true] at ha9
      have ea := Nat.eq_of_beq_eq_true ha9.1
      subst ea
      unfold am_b at hs
      split at hs
      · rename_i hb
        simp only [Bool.and_eq_true] at hb
        replace hb : Nat.ble am_pS o = true ∧ Nat.ble o (am_pS + 6) = true ∧ Nat.ble h.length am_pX = true := ⟨ha9.2, hb⟩
        have h1 := Nat.ble_eq.mp hb.1
        have h2 := Nat.ble_eq.mp hb.2.1
        have hh9 : h.length ≤ am_pX := Nat.ble_eq.mp hb.2.2
        obtain ⟨i9, hi9, rfl⟩ : ∃ i9, i9 < 7 ∧ o = am_pS + i9 := am_sp h1 h2
        match b, hw, hs with
        | 0, hw, hs =>
          intro q H locs ls g1 g2 g3 g4 g5 g6 g7 g8
          have hq9 := am_X_ag g1 hh9 C.2.2.2.2.2.2.2.2.2.2.1
          refine vk_getf (q := q (am_pS + i9)) (v := .ref (q (am_pV + i9))) C.1 C.2.1 (hq9.1.2.1.1 i9 hi9).2.2.1 g5 C.2.2.2.2.1 (C.2.2.2.2.2.2.2.1 _ (am_mg hw rfl)) (fun _ h9 => h9) hd ?_
          have kk := (hP _ (hs) q H locs ls g1 g2 g3 g4 g5 (am_has_pick _ g6) g7 g8)
          rw [am_sv] at kk
          exact kk
        | 1, hw, hs =>
          intro q H locs ls g1 g2 g3 g4 g5 g6 g7 g8
          have hq9 := am_X_ag g1 hh9 C.2.2.2.2.2.2.2.2.2.2.1
          exact vk_getf (q := q (am_pS + i9)) (v := .int 0) C.1 C.2.1 (hq9.1.2.1.1 i9 hi9).2.1 g5 C.2.2.2.2.1 (C.2.2.2.2.2.2.2.1 _ (am_mg hw rfl)) (fun _ h9 => h9) hd (hP _ (hs) q H locs ls g1 g2 g3 g4 g5 (am_has_pick _ g6) g7 g8)
        | b9 + 2, hw, hs => exact hs.elim
      · exact hs.elim
    | false =>
      rw [ha9] at hs
      dsimp only at hs
      unfold am_obj at hs
      split at hs
      · rename_i x hx
        obtain ⟨ci, fs⟩ := x
        unfold am_b at hs
        split at hs
        · rename_i hb
          have e := Nat.eq_of_beq_eq_true hb
          dsimp only at e
          subst e
          unfold am_ov at hs
          split at hs
          · rename_i v hv
            dsimp only at hv
            intro q H locs ls g1 g2 g3 g4 g5 g6 g7 g8
            exact va_get (v := am_rv q v) C.1 C.2.1 C.2.2.2.2.2.2.2.1 (fun w h9 => am_mg (am_cl_in hc w h9) (am_cl_good w h9)) C.2.2.2.2.1 C.2.2.2.2.2.2.2.2.1 g3 o (am_rz_get hx) (am_cl_get hc) b hb9 (C.2.2.2.2.2.2.2.1 _ (am_mg hw rfl)) (fun _ h9 => h9) (by rw [List.getElem?_map, hv]; rfl) hd (hP _ (hs) q H locs ls g1 g2 g3 g4 g5 (am_has_pick _ g6) g7 g8)
          · exact hs.elim
        · exact hs.elim
      · exact hs.elim
  · exact hs.elim
theorem am_o_baload (C : am_Cx p l e R s m args below meth c sc y d mc ms Φ D ty A q0 h0 Qf) (hP : ∀ x : am_S, P x → am_Wt p l e R s m args below meth c y mc ms D ty A q0 h0 Qf x)  {len : Nat} (hd : decode (am_code y) pc = .ok (.baload, len)) (hn : len = 1)  (hs : am_ex E sc y mc ms Φ P (.baload) a b kf kt tg pc lv st h k n) : am_Wt p l e R s m args below meth c y mc ms D ty A q0 h0 Qf (pc, lv, st, h, k, n) := by
  subst hn
  replace hs : am_i1 st _ := hs
  unfold am_i1 at hs
  split at hs
  · rename_i i r0
    unfold am_r1 at hs
    split at hs
    · rename_i o r
      split at hs
      · rename_i hx
        cases hv9 : Nat.ble am_pV o with
        | true =>
          rw [hv9] at hs
          dsimp only at hs
          unfold am_b at hs
          split at hs
          · rename_i hb
            simp only [Bool.and_eq_true] at hb
            replace hb : Nat.ble am_pV o = true ∧ Nat.ble o (am_pV + 6) = true ∧ Nat.ble h.length am_pX = true := ⟨hv9, hb⟩
            have h1 := Nat.ble_eq.mp hb.1
            have h2 := Nat.ble_eq.mp hb.2.1
            have hh9 : h.length ≤ am_pX := Nat.ble_eq.mp hb.2.2
            obtain ⟨i9, hi9, rfl⟩ : ∃ i9, i9 < 7 ∧ o = am_pV + i9 := am_sp h1 h2
            rw [Nat.add_sub_cancel_left] at hs
            intro q H locs ls g1 g2 g3 g4 g5 g6 g7 g8
            have hq9 := am_X_ag g1 hh9 C.2.2.2.2.2.2.2.2.2.2.1
            exact va_tb (t := q (am_pV + i9)) (v := .int ((am_byt.getD i9 []).getD i.toNatClampNeg 0)) C.1 C.2.1 (hq9.1.2.1.1 i9 hi9).2.2.2 g5 hs.1 rfl hd (hP _ (hs.2) q H locs ls g1 g2 g3 g4 g5 (am_has_pick _ g6) g7 g8)
          · exact hs.elim
        | false =>
          rw [hv9] at hs
          dsimp only at hs
          unfold am_b at hs
          split at hs
          · rename_i hb
            simp only [Bool.and_eq_true] at hb
            have e := Nat.eq_of_beq_eq_true hb.1
            subst e
            have hh9 : h.length ≤ am_pX := Nat.ble_eq.mp hb.2
            intro q H locs ls g1 g2 g3 g4 g5 g6 g7 g8
            have hq9 := am_X_ag g1 hh9 C.2.2.2.2.2.2.2.2.2.2.1
            exact va_tb (t := q (am_pX + 1)) (v := .int (am_ones i.toNatClampNeg)) C.1 C.2.1 hq9.2.2.2.1.2 g5 hs.1 rfl hd (hP _ (hs.2) q H locs ls g1 g2 g3 g4 g5 (am_has_pick _ g6) g7 g8)
          · exact hs.elim
      · unfold am_arr at hs
        split at hs
        · rename_i x hx
          obtain ⟨t, n9, z⟩ := x
          unfold am_b at hs
          split at hs
          · rename_i hb
            have e := Nat.eq_of_beq_eq_true hb
            dsimp only at e
            subst e
            unfold am_ai at hs
            split at hs
            · rename_i f hf
              dsimp only at hf
              subst hf
              intro q H locs ls g1 g2 g3 g4 g5 g6 g7 g8
              exact va_bald C.1 C.2.1 C.2.2.2.2.2.2.2.2.1 g3 o 4 (am_rz_get hx) rfl hs.1 hd (hP _ (hs.2) q H locs ls g1 g2 g3 g4 g5 (am_has_pick _ g6) g7 g8)
            · exact hs.elim
          · exact hs.elim
        · exact hs.elim
    · exact hs.elim
  · exact hs.elim
theorem am_o_putfield (C : am_Cx p l e R s m args below meth c sc y d mc ms Φ D ty A q0 h0 Qf) (hP : ∀ x : am_S, P x → am_Wt p l e R s m args below meth c y mc ms D ty A q0 h0 Qf x) {idx : Nat} {len : Nat} (hd : decode (am_code y) pc = .ok (.putfield idx, len)) (hn : len = 3) (hc : a < 9) (hb9 : b < am_Nf a) (hw : Jvm.Cond.fieldLink (am_nm y).cls idx (am_T a b).1 (am_T a b).2.1 (am_T a b).2.2.1 ∈ wt_tbl) (hf : (am_T a b).2.2.2 = false ∨ ((am_T a b).2.2.2 = true ∧ (am_nm y).name = "<init>" ∧ (am_T a b).1 = (am_nm y).cls)) (hs : am_ex E sc y mc ms Φ P (.putfield idx) a b kf kt tg pc lv st h k n) : am_Wt p l e R s m args below meth c y mc ms D ty A q0 h0 Qf (pc, lv, st, h, k, n) := by
  subst hn
  cases st with
  | nil => exact hs.elim
  | cons v r0 =>
    replace hs : am_r1 r0 _ := hs
    unfold am_r1 at hs
    split at hs
    · rename_i o r
      unfold am_obj at hs
      split at hs
      · rename_i x hx
        obtain ⟨ci, fs⟩ := x
        unfold am_b at hs
        split at hs
        · rename_i hb
          simp only [Bool.and_eq_true] at hb
          have e := Nat.eq_of_beq_eq_true hb.1
          subst e
          intro q H locs ls g1 g2 g3 g4 g5 g6 g7 g8
          rcases hf with hf | hf
          · refine va_put (ty := am_ty ci b) (v := am_rv q v) C.1 C.2.1 C.2.2.2.2.2.2.2.1 (fun w h9 => am_mg (am_cl_in hc w h9) (am_cl_good w h9)) (am_ty ci) (am_ty_ok hc) (am_nm_ok hc) C.2.2.2.2.1 C.2.2.2.2.2.2.2.2.1 g3 g4 g5 o (am_rz_get hx) (am_cl_get hc) b hb9 (C.2.2.2.2.2.2.2.1 _ (am_mg hw rfl)) (fun _ h9 => h9) hf (am_ty_ok hc b hb9) (am_narrow_rv hs.1) (am_fits_rv hs.2.1) (by rw [List.length_map]; exact Nat.ble_eq.mp hb.2) hd (fun H1 locs1 P1 D1 S1 => ?_)
            rw [show (Sum.inr (ci, (fs.map (am_rv q)).set b (am_rv q v)) : va_E) = am_rc q ty (.inr (ci, fs.set b v)) from by show _ = Sum.inr (ci, (fs.set b v).map (am_rv q)); rw [List.map_set], am_rz_set] at P1 D1
            exact hP _ (hs.2.2) q H1 locs1 ls (by rw [List.length_set]; exact g1) (by rw [List.length_set]; exact g2) P1 D1 S1 (am_has_pick _ g6) g7 g8
          · refine va_putF (ty := am_ty ci b) (v := am_rv q v) C.1 C.2.1 C.2.2.2.2.2.2.2.1 (fun w h9 => am_mg (am_cl_in hc w h9) (am_cl_good w h9)) (am_ty ci) (am_ty_ok hc) (am_nm_ok hc) C.2.2.2.2.1 C.2.2.2.2.2.2.2.2.1 g3 g4 g5 o (am_rz_get hx) (am_cl_get hc) b hb9 (C.2.2.2.2.2.2.2.1 _ (am_mg hw rfl)) (fun _ h9 => h9) hf.1 (C.2.2.2.2.2.2.1 hf.2.1) hf.2.2 (am_ty_ok hc b hb9) (am_narrow_rv hs.1) (am_fits_rv hs.2.1) (by rw [List.length_map]; exact Nat.ble_eq.mp hb.2) hd (fun H1 locs1 P1 D1 S1 => ?_)
            rw [show (Sum.inr (ci, (fs.map (am_rv q)).set b (am_rv q v)) : va_E) = am_rc q ty (.inr (ci, fs.set b v)) from by show _ = Sum.inr (ci, (fs.set b v).map (am_rv q)); rw [List.map_set], am_rz_set] at P1 D1
            exact hP _ (hs.2.2) q H1 locs1 ls (by rw [List.length_set]; exact g1) (by rw [List.length_set]; exact g2) P1 D1 S1 (am_has_pick _ g6) g7 g8
        · exact hs.elim
      · exact hs.elim
    · exact hs.elim
theorem am_o_getstaticO (C : am_Cx p l e R s m args below meth c sc y d mc ms Φ D ty A q0 h0 Qf) (hP : ∀ x : am_S, P x → am_Wt p l e R s m args below meth c y mc ms D ty A q0 h0 Qf x) {idx : Nat} {len : Nat} (hd : decode (am_code y) pc = .ok (.getstatic idx, len)) (hn : len = 3) (ha : a = 2) (hw : Jvm.Cond.fieldLink (am_nm y).cls idx "java/lang/Integer" "DigitOnes" "[B" ∈ wt_tbl) (hs : am_ex E sc y mc ms Φ P (.getstatic idx) a b kf kt tg pc lv st h k n) : am_Wt p l e R s m args below meth c y mc ms D ty A q0 h0 Qf (pc, lv, st, h, k, n) := by
  subst hn
  subst ha
  replace hs : am_b _ _ := hs
  unfold am_b at hs
  split at hs
  rotate_left
  · exact hs.elim
  rename_i hh
  have hh9 := Nat.ble_eq.mp hh
  intro q H locs ls g1 g2 g3 g4 g5 g6 g7 g8
  have hq9 := am_X_ag g1 hh9 C.2.2.2.2.2.2.2.2.2.2.1
  exact va_gets (v := .ref (q (am_pX + 1))) C.1 C.2.1 hq9.2.2.2.1.1 g5 C.2.2.2.2.1 (C.2.2.2.2.2.2.2.1 _ (am_mg hw rfl)) (fun _ h9 => h9) hd (hP _ (hs) q H locs ls g1 g2 g3 g4 g5 (am_has_pick _ g6) g7 g8)
theorem am_o_getstaticC (C : am_Cx p l e R s m args below meth c sc y d mc ms Φ D ty A q0 h0 Qf) (hP : ∀ x : am_S, P x → am_Wt p l e R s m args below meth c y mc ms D ty A q0 h0 Qf x) {idx : Nat} {len : Nat} (hd : decode (am_code y) pc = .ok (.getstatic idx, len)) (hn : len = 3) (ha : a = 1) (hw : Jvm.Cond.fieldLink (am_nm y).cls idx "java/lang/String" "COMPACT_STRINGS" "Z" ∈ wt_tbl) (hs : am_ex E sc y mc ms Φ P (.getstatic idx) a b kf kt tg pc lv st h k n) : am_Wt p l e R s m args below meth c y mc ms D ty A q0 h0 Qf (pc, lv, st, h, k, n) := by
  subst hn
  subst ha
  replace hs : P _ := hs
  intro q H locs ls g1 g2 g3 g4 g5 g6 g7 g8
  exact va_gets (v := .int 1) C.1 C.2.1 C.2.2.2.2.2.2.2.2.2.2.1.1.2.2.1 g5 C.2.2.2.2.1 (C.2.2.2.2.2.2.2.1 _ (am_mg hw rfl)) (fun _ h9 => h9) hd (hP _ (hs) q H locs ls g1 g2 g3 g4 g5 (am_has_pick _ g6) g7 g8)
theorem am_o_iaload (C : am_Cx p l e R s m args below meth c sc y d mc ms Φ D ty A q0 h0 Qf) (hP : ∀ x : am_S, P x → am_Wt p l e R s m args below meth c y mc ms D ty A q0 h0 Qf x)  {len : Nat} (hd : decode (am_code y) pc = .ok (.iaload, len)) (hn : len = 1)  (hs : am_ex E sc y mc ms Φ P (.iaload) a b kf kt tg pc lv st h k n) : am_Wt p l e R s m args below meth c y mc ms D ty A q0 h0 Qf (pc, lv, st, h, k, n) := by
  subst hn
  replace hs : am_i1 st _ := hs
  unfold am_i1 at hs
  split at hs
  · rename_i i r0
    unfold am_r1 at hs
    split at hs
    · rename_i o r
      split at hs
      · rename_i hx
        split at hs
        · rename_i ho
          have e := Nat.eq_of_beq_eq_true ho
          subst e
          cases sc with
          | none => exact hs.elim
          | some w =>
            dsimp only at hs
            unfold am_b at hs
            split at hs
            · rename_i hh
              have hh9 := Nat.ble_eq.mp hh
              intro q H locs ls g1 g2 g3 g4 g5 g6 g7 g8
              have hq9 := am_X_ag g1 hh9 C.2.2.2.2.2.2.2.2.2.2.1
              exact va_ti (t := q am_pL) (v := .int (w.2 i.toNatClampNeg)) C.1 C.2.1 (hq9.2.2.2.2 w rfl) g5 hs.1 rfl hd (hP _ (hs.2) q H locs ls g1 g2 g3 g4 g5 (am_has_pick _ g6) g7 g8)
            · exact hs.elim
        · exact hs.elim
      · unfold am_arr at hs
        split at hs
        · rename_i x hx
          obtain ⟨t, n9, z⟩ := x
          unfold am_b at hs
          split at hs
          · rename_i hb
            have e := Nat.eq_of_beq_eq_true hb
            dsimp only at e
            subst e
            unfold am_ai at hs
            split at hs
            · rename_i f hf
              dsimp only at hf
              subst hf
              intro q H locs ls g1 g2 g3 g4 g5 g6 g7 g8
              exact va_iald C.1 C.2.1 C.2.2.2.2.2.2.2.2.1 g3 o 0 (am_rz_get hx) rfl hs.1 hd (hP _ (hs.2) q H locs ls g1 g2 g3 g4 g5 (am_has_pick _ g6) g7 g8)
            · exact hs.elim
          · exact hs.elim
        · exact hs.elim
    · exact hs.elim
  · exact hs.elim
theorem am_o_laload (C : am_Cx p l e R s m args below meth c sc y d mc ms Φ D ty A q0 h0 Qf) (hP : ∀ x : am_S, P x → am_Wt p l e R s m args below meth c y mc ms D ty A q0 h0 Qf x)  {len : Nat} (hd : decode (am_code y) pc = .ok (.laload, len)) (hn : len = 1)  (hs : am_ex E sc y mc ms Φ P (.laload) a b kf kt tg pc lv st h k n) : am_Wt p l e R s m args below meth c y mc ms D ty A q0 h0 Qf (pc, lv, st, h, k, n) := by
  subst hn
  replace hs : am_i1 st _ := hs
  unfold am_i1 at hs
  split at hs
  · rename_i i r0
    unfold am_r1 at hs
    split at hs
    · rename_i o r
      unfold am_arr at hs
      split at hs
      · rename_i x hx
        obtain ⟨t, n9, z⟩ := x
        unfold am_b at hs
        split at hs
        · rename_i hb
          unfold am_al at hs
          split at hs
          · rename_i f hf
            dsimp only at hf
            subst hf
            have e := Nat.eq_of_beq_eq_true hb
            dsimp only at e
            subst e
            intro q H locs ls g1 g2 g3 g4 g5 g6 g7 g8
            exact va_lald C.1 C.2.1 C.2.2.2.2.2.2.2.2.1 g3 o 1 (am_rz_get hx) rfl hs.1 hd (hP _ (hs.2) q H locs ls g1 g2 g3 g4 g5 (am_has_pick _ g6) g7 g8)
          · exact hs.elim
        · exact hs.elim
      · exact hs.elim
    · exact hs.elim
  · exact hs.elim
theorem am_rf_q {q : Nat → Nat} (r : Option Nat) : va_rf (r.map q) = am_rv q (va_rf r) := by cases r <;> rfl
theorem va_aldA {R : Room} {H : Heap} {locs : List Loc} {cells slots : Nat} {Q : State → Prop} {cc : ByteArray} {ls : Array Slot} {rest : List Value} {cl : List vw_C} {tys : List (ClassId × FieldType)} {ws : va_W} {o : Nat} (hexec : p.tables.exec = Jvm.exec) (hb : c.code = cc) (hK : va_K D cl tys s) (hP : va_P D cl ws H) (q0 t0 : Nat) {cA : ClassId} {t : FieldType} {n : Nat} {f : Nat → Option Nat} (ha : ws[q0]? = some (o, .inl (cA, n, .inr (.inr (.inr (.inr f)))))) (ht : tys[t0]? = some (cA, .array t)) {i : Int32} (hin : vp_in i n) (hdg : decode cc pc = .ok (.aaload, 1))
    (kk : W p l e R s m args below meth c H locs cells slots Q (F0 m (pc + 1) ls (va_rf (f i.toNatClampNeg) :: rest))) : W p l e R s m args below meth c H locs cells slots Q (F0 m pc ls (.int i :: .ref o :: rest)) := by
  have hlt : i.toNatClampNeg < n := Nat.not_le.mp fun q => hin (Or.inr q)
  exact W.aald (v := va_rf (f i.toNatClampNeg)) (ty := .array t) hexec hb (hP q0 _ ha) ((hK.2 t0 _ ht).1 n (fun j => va_rf (f j))) rfl (fun q => by cases q) (by show ¬ (i < 0 ∨ (arrV _ _ _).slots.size ≤ _); rw [arrV_size]; exact hin) (by show (arrV _ _ _).slots[_]? = _; rw [arrV_read _ _ hlt]) rfl rfl hdg kk
theorem am_o_aaload (C : am_Cx p l e R s m args below meth c sc y d mc ms Φ D ty A q0 h0 Qf) (hP : ∀ x : am_S, P x → am_Wt p l e R s m args below meth c y mc ms D ty A q0 h0 Qf x)  {len : Nat} (hd : decode (am_code y) pc = .ok (.aaload, len)) (hn : len = 1)  (hs : am_ex E sc y mc ms Φ P (.aaload) a b kf kt tg pc lv st h k n) : am_Wt p l e R s m args below meth c y mc ms D ty A q0 h0 Qf (pc, lv, st, h, k, n) := by
  subst hn
  replace hs : am_i1 st _ := hs
  unfold am_i1 at hs
  split at hs
  · rename_i i r0
    unfold am_r1 at hs
    split at hs
    · rename_i o r
      unfold am_arr at hs
      split at hs
      · rename_i x hx
        obtain ⟨t, n9, z⟩ := x
        unfold am_b at hs
        split at hs
        · rename_i hb
          unfold am_aq at hs
          split at hs
          · rename_i f hf
            dsimp only at hf
            subst hf
            simp only [Bool.or_eq_true] at hb
            have hlt : i.toNatClampNeg < n9 := Nat.not_le.mp fun q => hs.1 (Or.inr q)
            intro q H locs ls g1 g2 g3 g4 g5 g6 g7 g8
            have hv : va_rf ((fun i => if i < n9 then (f i).map q else none) i.toNatClampNeg) = am_rv q (va_rf (f i.toNatClampNeg)) := by
              show va_rf (if i.toNatClampNeg < n9 then (f i.toNatClampNeg).map q else none) = _
              rw [if_pos hlt]
              exact am_rf_q _
            have kk := (hP _ (hs.2) q H locs ls g1 g2 g3 g4 g5 (am_has_pick _ g6) g7 g8)
            rcases hb with hb | hb
            · have e := Nat.eq_of_beq_eq_true hb
              try dsimp only at e
              subst e
              refine va_aldq (n := n9) (f := fun i => if i < n9 then (f i).map q else none) C.1 C.2.1 C.2.2.2.2.2.2.2.2.1 g3 o 2 (am_rz_get hx) rfl hs.1 hd ?_
              rw [hv]
              exact kk
            · have e := Nat.eq_of_beq_eq_true hb
              try dsimp only at e
              subst e
              refine va_aldA (n := n9) (f := fun i => if i < n9 then (f i).map q else none) C.1 C.2.1 C.2.2.2.2.2.2.2.2.1 g3 o 3 (am_rz_get hx) rfl hs.1 hd ?_
              rw [hv]
              exact kk
          · exact hs.elim
        · exact hs.elim
      · exact hs.elim
    · exact hs.elim
  · exact hs.elim
theorem am_o_iastore (C : am_Cx p l e R s m args below meth c sc y d mc ms Φ D ty A q0 h0 Qf) (hP : ∀ x : am_S, P x → am_Wt p l e R s m args below meth c y mc ms D ty A q0 h0 Qf x)  {len : Nat} (hd : decode (am_code y) pc = .ok (.iastore, len)) (hn : len = 1)  (hs : am_ex E sc y mc ms Φ P (.iastore) a b kf kt tg pc lv st h k n) : am_Wt p l e R s m args below meth c y mc ms D ty A q0 h0 Qf (pc, lv, st, h, k, n) := by
  subst hn
  replace hs : am_i1 st _ := hs
  unfold am_i1 at hs
  split at hs
  · rename_i x r1
    try unfold am_i1 at hs
    split at hs
    · rename_i i r0
      unfold am_r1 at hs
      split at hs
      · rename_i o r
        unfold am_arr at hs
        split at hs
        · rename_i z hx
          obtain ⟨t, n9, z⟩ := z
          unfold am_b at hs
          split at hs
          · rename_i hb
            unfold am_ai at hs
            split at hs
            · rename_i f hf
              dsimp only at hf
              subst hf
              have e := Nat.eq_of_beq_eq_true hb
              dsimp only at e
              subst e
              intro q H locs ls g1 g2 g3 g4 g5 g6 g7 g8
              refine va_iast C.1 C.2.1 C.2.2.2.2.2.2.2.2.1 g3 g4 g5 o 0 (am_rz_get hx) rfl hs.1 hd (fun H1 locs1 P1 D1 S1 => ?_)
              rw [show (Sum.inl (ty 0, n9, .inl (upd f i.toNatClampNeg x)) : va_E) = am_rc q ty (.inl (0, n9, .inl (upd f i.toNatClampNeg x))) from rfl, am_rz_set] at P1 D1
              exact hP _ (hs.2) q H1 locs1 ls (by rw [List.length_set]; exact g1) (by rw [List.length_set]; exact g2) P1 D1 S1 (am_has_pick _ g6) g7 g8
            · exact hs.elim
          · exact hs.elim
        · exact hs.elim
      · exact hs.elim
    · exact hs.elim
  · exact hs.elim
theorem am_o_bastore (C : am_Cx p l e R s m args below meth c sc y d mc ms Φ D ty A q0 h0 Qf) (hP : ∀ x : am_S, P x → am_Wt p l e R s m args below meth c y mc ms D ty A q0 h0 Qf x)  {len : Nat} (hd : decode (am_code y) pc = .ok (.bastore, len)) (hn : len = 1)  (hs : am_ex E sc y mc ms Φ P (.bastore) a b kf kt tg pc lv st h k n) : am_Wt p l e R s m args below meth c y mc ms D ty A q0 h0 Qf (pc, lv, st, h, k, n) := by
  subst hn
  replace hs : am_i1 st _ := hs
  unfold am_i1 at hs
  split at hs
  · rename_i x r1
    try unfold am_i1 at hs
    split at hs
    · rename_i i r0
      unfold am_r1 at hs
      split at hs
      · rename_i o r
        unfold am_arr at hs
        split at hs
        · rename_i z hx
          obtain ⟨t, n9, z⟩ := z
          unfold am_b at hs
          split at hs
          · rename_i hb
            unfold am_ai at hs
            split at hs
            · rename_i f hf
              dsimp only at hf
              subst hf
              have e := Nat.eq_of_beq_eq_true hb
              dsimp only at e
              subst e
              intro q H locs ls g1 g2 g3 g4 g5 g6 g7 g8
              refine va_bast C.1 C.2.1 C.2.2.2.2.2.2.2.2.1 g3 g4 g5 o 4 (am_rz_get hx) rfl hs.1 hd (fun H1 locs1 P1 D1 S1 => ?_)
              rw [show (Sum.inl (ty 4, n9, .inl (upd f i.toNatClampNeg (vp_nar .byte x))) : va_E) = am_rc q ty (.inl (4, n9, .inl (upd f i.toNatClampNeg (vp_nar .byte x)))) from rfl, am_rz_set] at P1 D1
              exact hP _ (hs.2) q H1 locs1 ls (by rw [List.length_set]; exact g1) (by rw [List.length_set]; exact g2) P1 D1 S1 (am_has_pick _ g6) g7 g8
            · exact hs.elim
          · exact hs.elim
        · exact hs.elim
      · exact hs.elim
    · exact hs.elim
  · exact hs.elim
theorem am_o_lastore (C : am_Cx p l e R s m args below meth c sc y d mc ms Φ D ty A q0 h0 Qf) (hP : ∀ x : am_S, P x → am_Wt p l e R s m args below meth c y mc ms D ty A q0 h0 Qf x)  {len : Nat} (hd : decode (am_code y) pc = .ok (.lastore, len)) (hn : len = 1)  (hs : am_ex E sc y mc ms Φ P (.lastore) a b kf kt tg pc lv st h k n) : am_Wt p l e R s m args below meth c y mc ms D ty A q0 h0 Qf (pc, lv, st, h, k, n) := by
  subst hn
  replace hs : am_l1 st _ := hs
  unfold am_l1 at hs
  split at hs
  · rename_i x r1
    try unfold am_i1 at hs
    split at hs
    · rename_i i r0
      unfold am_r1 at hs
      split at hs
      · rename_i o r
        unfold am_arr at hs
        split at hs
        · rename_i z hx
          obtain ⟨t, n9, z⟩ := z
          unfold am_b at hs
          split at hs
          · rename_i hb
            unfold am_al at hs
            split at hs
            · rename_i f hf
              dsimp only at hf
              subst hf
              have e := Nat.eq_of_beq_eq_true hb
              dsimp only at e
              subst e
              intro q H locs ls g1 g2 g3 g4 g5 g6 g7 g8
              refine va_last C.1 C.2.1 C.2.2.2.2.2.2.2.2.1 g3 g4 g5 o 1 (am_rz_get hx) rfl hs.1 hd (fun H1 locs1 P1 D1 S1 => ?_)
              rw [show (Sum.inl (ty 1, n9, .inr (.inl (vp_updL f i.toNatClampNeg x))) : va_E) = am_rc q ty (.inl (1, n9, .inr (.inl (vp_updL f i.toNatClampNeg x)))) from rfl, am_rz_set] at P1 D1
              exact hP _ (hs.2) q H1 locs1 ls (by rw [List.length_set]; exact g1) (by rw [List.length_set]; exact g2) P1 D1 S1 (am_has_pick _ g6) g7 g8
            · exact hs.elim
          · exact hs.elim
        · exact hs.elim
      · exact hs.elim
    · exact hs.elim
  · exact hs.elim
theorem am_o_arraylength (C : am_Cx p l e R s m args below meth c sc y d mc ms Φ D ty A q0 h0 Qf) (hP : ∀ x : am_S, P x → am_Wt p l e R s m args below meth c y mc ms D ty A q0 h0 Qf x)  {len : Nat} (hd : decode (am_code y) pc = .ok (.arraylength, len)) (hn : len = 1)  (hs : am_ex E sc y mc ms Φ P (.arraylength) a b kf kt tg pc lv st h k n) : am_Wt p l e R s m args below meth c y mc ms D ty A q0 h0 Qf (pc, lv, st, h, k, n) := by
  subst hn
  replace hs : am_r1 st _ := hs
  unfold am_r1 at hs
  split at hs
  · rename_i o r
    split at hs
    · cases hv9 : Nat.ble am_pV o with
      | true =>
        rw [hv9] at hs
        dsimp only at hs
        unfold am_b at hs
        split at hs
        · rename_i hb
          simp only [Bool.and_eq_true] at hb
          replace hb : Nat.ble am_pV o = true ∧ Nat.ble o (am_pV + 6) = true ∧ Nat.ble h.length am_pX = true := ⟨hv9, hb⟩
          have h1 := Nat.ble_eq.mp hb.1
          have h2 := Nat.ble_eq.mp hb.2.1
          have hh9 : h.length ≤ am_pX := Nat.ble_eq.mp hb.2.2
          obtain ⟨i9, hi9, rfl⟩ : ∃ i9, i9 < 7 ∧ o = am_pV + i9 := am_sp h1 h2
          rw [Nat.add_sub_cancel_left] at hs
          intro q H locs ls g1 g2 g3 g4 g5 g6 g7 g8
          have hq9 := am_X_ag g1 hh9 C.2.2.2.2.2.2.2.2.2.2.1
          exact va_tlen (t := q (am_pV + i9)) C.1 C.2.1 (hq9.1.2.1.1 i9 hi9).2.2.2 g5 rfl hd (hP _ (hs) q H locs ls g1 g2 g3 g4 g5 (am_has_pick _ g6) g7 g8)
        · exact hs.elim
      | false =>
       rw [hv9] at hs
       dsimp only at hs
       cases sc with
       | none => exact hs.elim
       | some w =>
        dsimp only at hs
        unfold am_b at hs
        split at hs
        · rename_i hb
          simp only [Bool.and_eq_true] at hb
          have e := Nat.eq_of_beq_eq_true hb.1
          subst e
          intro q H locs ls g1 g2 g3 g4 g5 g6 g7 g8
          have hh9 := Nat.ble_eq.mp hb.2
          have hq9 := am_X_ag g1 hh9 C.2.2.2.2.2.2.2.2.2.2.1
          exact va_tlen (t := q am_pL) C.1 C.2.1 (hq9.2.2.2.2 w rfl) g5 rfl hd (hP _ (hs) q H locs ls g1 g2 g3 g4 g5 (am_has_pick _ g6) g7 g8)
        · exact hs.elim
    unfold am_arr at hs
    split at hs
    · rename_i x hx
      obtain ⟨t, n9, z⟩ := x
      unfold am_b at hs
      split at hs
      · rename_i hb
        have ht : t ≤ 4 := Nat.ble_eq.mp hb
        have ht9 : ∃ f9, (am_tys ty)[t]? = some (ty t, f9) := by
          match t, ht with
          | 0, _ => exact ⟨_, rfl⟩
          | 1, _ => exact ⟨_, rfl⟩
          | 2, _ => exact ⟨_, rfl⟩
          | 3, _ => exact ⟨_, rfl⟩
          | 4, _ => exact ⟨_, rfl⟩
        obtain ⟨f9, hf9⟩ := ht9
        intro q H locs ls g1 g2 g3 g4 g5 g6 g7 g8
        have hl9 : (am_ra q (n9, z)).1 = n9 := by
          match z with
          | .inl _ => rfl
          | .inr (.inl _) => rfl
          | .inr (.inr (.inl _)) => rfl
          | .inr (.inr (.inr (.inl _))) => rfl
          | .inr (.inr (.inr (.inr _))) => rfl
        exact va_alen (v := Int32.ofNat n9) C.1 C.2.1 C.2.2.2.2.2.2.2.2.1 g3 o t (am_rz_get hx) hf9 (by rw [hl9]) hd (hP _ (hs) q H locs ls g1 g2 g3 g4 g5 (am_has_pick _ g6) g7 g8)
      · exact hs.elim
    · exact hs.elim
  · exact hs.elim
end OPS
end
section
/-! ===== what is made; calls; ends; switches ===== -/
theorem am_wI : Jvm.Cond.arrayClass .int ∈ wt_tbl := List.mem_of_getElem? (i := 111) (by decide +kernel)
theorem am_wJ : Jvm.Cond.arrayClass .long ∈ wt_tbl := List.mem_of_getElem? (i := 922) (by decide +kernel)
theorem am_wB : Jvm.Cond.arrayClass .byte ∈ wt_tbl := List.mem_of_getElem? (i := 347) (by decide +kernel)
theorem am_dfl_map {q : Nat → Nat} {ci : Nat} (hc : ci < 9) : (am_dfl ci).map (am_rv q) = am_dfl ci := by
  match ci, hc with
  | 0, _ => rfl
  | 1, _ => rfl
  | 2, _ => rfl
  | 3, _ => rfl
  | 4, _ => rfl
  | 5, _ => rfl
  | 6, _ => rfl
  | 7, _ => rfl
  | 8, _ => rfl
theorem am_dfl_V {ci : Nat} (j : Nat) (hj : j < am_Nf ci) : defaultValue (am_ty ci j) = vp_V (am_dfl ci) j := by
  unfold vp_V am_dfl
  rw [List.getD_eq_getElem?_getD, List.getElem?_map, List.getElem?_range hj]
  rfl
/-- one new cell -/
theorem am_new1 {q0 q : Nat → Nat} {ty : Nat → ClassId} {h0 h : am_H} {lv : am_L} {st : List Value} (x : am_C) (q9 : Nat) (g1 : am_ag q0 q h0.length h.length) (g2 : h0.length ≤ h.length) (hn : am_nh h.length (h.length + 1) lv st h = true) :
    am_ag q0 (va_up q h.length q9) h0.length (h ++ [x]).length ∧ h0.length ≤ (h ++ [x]).length ∧ am_rz (va_up q h.length q9) ty (h ++ [x]) = am_rz q ty h ++ [(q9, am_rc (va_up q h.length q9) ty x)] ∧ am_rl (va_up q h.length q9) lv = am_rl q lv ∧ st.map (am_rv (va_up q h.length q9)) = st.map (am_rv q) := by
  simp only [am_nh, Bool.and_eq_true] at hn
  have hq : ∀ j, (j < h.length ∨ h.length + 1 ≤ j) → va_up q h.length q9 j = q j := fun j hj => by
    unfold va_up
    rw [if_neg]
    omega
  refine ⟨fun j hj => ?_, by rw [List.length_append]; omega, ?_, am_nl_rl hq hn.1, am_ns_rv hq hn.2.1⟩
  · rw [List.length_append] at hj
    rw [hq j (by simp only [List.length_cons, List.length_nil] at hj; omega)]
    exact g1 j (by simp only [List.length_cons, List.length_nil] at hj; omega)
  · rw [am_rz_app, am_nh_rz hq (Nat.le_refl _) hn.2.2]
    congr 2
    unfold va_up
    rw [if_pos rfl]
/-- a method's behaviour, as its callers use it -/
def am_Q (D : va_G) (ty : Nat → ClassId) (q : Nat → Nat) (h : am_H) (r : Option Value) (h1 : am_H) (sz : Nat) : Array Value → State → Outcome → State → Prop := fun _ st oc t =>
  (∃ q1 : Nat → Nat, am_ag q q1 h.length h1.length ∧ oc = .returned (r.map (am_rv q1)) ∧ va_P D vwCl (am_rz q1 ty h1) t.heap ∧ va_K D vwCl (am_tys ty) t ∧ va_D (va_A (am_rz q ty h) sz) (am_rz q1 ty h1)) ∧ va_F (va_A (am_rz q ty h) sz) st t
def am_P (sc : Option (Nat × (Nat → Int32))) (D : va_G) (ty : Nat → ClassId) (q : Nat → Nat) (h : am_H) (sz : Nat) (U : State) : Prop := U.heap.size = sz ∧ va_P D vwCl (am_rz q ty h) U.heap ∧ va_K D vwCl (am_tys ty) U ∧ va_D (fun _ => True) (am_rz q ty h) ∧ am_X sc q (va_A (am_rz q ty h) sz) U U.heap
def am_MetD (sc : Option (Nat × (Nat → Int32))) (l : Launch) (d : Nat) (D : va_G) (ty : Nat → ClassId) (y : Nat) (as : List Value) (h : am_H) (r : Option Value) (h1 : am_H) (mc ms : Nat) : Prop :=
  ∀ (q : Nat → Nat) (sz : Nat), h.length ≤ h1.length → Met l (am_nm y) (am_ws y) (am_rm d mc ms) (va_Pc (as.map (am_rv q)) (am_P sc D ty q h sz)) (am_Q D ty q h r h1 sz) mc ms (va_A (am_rz q ty h) sz)
theorem am_take_ok : ∀ (n : Nat) (acc st as rest : List Value), am_take n acc st = some (as, rest) → ∃ xs, as = xs ++ acc ∧ st = xs.reverse ++ rest ∧ xs.length = n
  | 0, acc, st, as, rest, h => by
    cases h
    exact ⟨[], rfl, rfl, rfl⟩
  | n + 1, acc, [], as, rest, h => by cases h
  | n + 1, acc, v :: st, as, rest, h => by
    obtain ⟨xs, e1, e2, e3⟩ := am_take_ok n (v :: acc) st as rest h
    exact ⟨xs ++ [v], by rw [e1]; simp, by rw [e2]; simp, by simp [e3]⟩
theorem am_sw_in {x : Int32} {K : Nat × List Nat → Prop} {dd : Nat × List Nat} : ∀ (ts : List (Nat × List Nat)) (lo : Int), am_sw x K dd lo ts → ∀ (i : Nat) (t : Nat × List Nat), ts[i]? = some t → x.toInt = lo + i → K t
  | [], lo, h, i, t, ht, hx => by cases ht
  | t0 :: ts, lo, h, 0, t, ht, hx => by
    cases ht
    exact h.1 (by omega)
  | t0 :: ts, lo, h, i + 1, t, ht, hx => am_sw_in ts (lo + 1) (h.2 (by omega)) i t ht (by omega)
theorem am_sw_out {x : Int32} {K : Nat × List Nat → Prop} {dd : Nat × List Nat} : ∀ (ts : List (Nat × List Nat)) (lo : Int), am_sw x K dd lo ts → (x.toInt < lo ∨ lo + (ts.length : Int) ≤ x.toInt) → K dd
  | [], lo, h, hx => h
  | t0 :: ts, lo, h, hx => am_sw_out ts (lo + 1) (h.2 (by simp only [List.length_cons] at hx; omega)) (by simp only [List.length_cons] at hx; omega)
theorem am_lw_ok {x : Int32} {K : Nat × List Nat → Prop} {dd : Nat × List Nat} {pc : Nat} {dflt : Int} (h1 : (pc : Int) + dflt = (dd.1 : Int)) : ∀ (ps : List (Int × Int)) (ts : List (Nat × List Nat)), am_lok pc ps ts = true → am_lw x K dd ps ts → ∃ t, K t ∧ (pc : Int) + Op.lookupswitch.offset ps dflt x.toInt = (t.1 : Int)
  | [], [], hk, h => ⟨dd, h, h1⟩
  | [], t :: ts, hk, h => by cases hk
  | p :: ps, [], hk, h => by cases hk
  | p :: ps, t :: ts, hk, h => by
    simp only [am_lok, Bool.and_eq_true, decide_eq_true_eq] at hk
    obtain ⟨p1, p2⟩ := p
    rw [Op.lookupswitch.offset_cons]
    by_cases e : x.toInt = p1
    · rw [if_pos e.symm]
      exact ⟨t, h.1 e, hk.1⟩
    · rw [if_neg (fun q => e q.symm)]
      exact am_lw_ok h1 ps ts hk.2 (h.2 e)
theorem am_tok_len {pc : Nat} : ∀ (os : List Int) (ts : List (Nat × List Nat)), am_tok pc os ts = true → os.length = ts.length
  | [], [], _ => rfl
  | [], t :: ts, h => by cases h
  | o :: os, [], h => by cases h
  | o :: os, t :: ts, h => by
    simp only [am_tok, Bool.and_eq_true] at h
    simp [am_tok_len os ts h.2]
theorem am_tok_get {pc : Nat} : ∀ (os : List Int) (ts : List (Nat × List Nat)), am_tok pc os ts = true → ∀ (i : Nat) (o : Int), os[i]? = some o → ∃ t, ts[i]? = some t ∧ (pc : Int) + o = (t.1 : Int)
  | [], [], _, i, o, h => by cases h
  | [], t :: ts, h, i, o, _ => by cases h
  | o :: os, [], h, _, _, _ => by cases h
  | o :: os, t :: ts, h, 0, o1, h1 => by
    simp only [am_tok, Bool.and_eq_true, decide_eq_true_eq] at h
    cases h1
    exact ⟨t, rfl, h.1⟩
  | o :: os, t :: ts, h, i + 1, o1, h1 => by
    simp only [am_tok, Bool.and_eq_true] at h
    exact am_tok_get os ts h.2 i o1 h1
section OPS
variable {p : Program} {l : Launch} {e : Env} {R : Room} {s : State} {m : MethodId} {args : Array Value} {below : List Frame} {meth : Method} {c : Code} {sc : Option (Nat × (Nat → Int32))} {y d mc ms : Nat} {Φ : Option Value → am_H → Prop} {D : va_G} {ty : Nat → ClassId} {A : Nat → Prop} {q0 : Nat → Nat} {h0 : am_H} {Qf : State → Prop}
variable {E : am_E} {P : am_S → Prop} {pc a b k n : Nat} {kf kt : Option (List Nat)} {tg : List (Nat × List Nat)} {lv : am_L} {st : List Value} {h : am_H}
theorem am_o_ldc (C : am_Cx p l e R s m args below meth c sc y d mc ms Φ D ty A q0 h0 Qf) (hP : ∀ x : am_S, P x → am_Wt p l e R s m args below meth c y mc ms D ty A q0 h0 Qf x) {idx : Nat} {len : Nat} (hd : decode (am_code y) pc = .ok (.ldc idx, len)) (hn : len = 2) (hb0 : b = 0) (hw : Jvm.Cond.constant (am_nm y).cls idx (Int32.ofNat a) ∈ wt_tbl) (hs : am_ex E sc y mc ms Φ P (.ldc idx) a b kf kt tg pc lv st h k n) : am_Wt p l e R s m args below meth c y mc ms D ty A q0 h0 Qf (pc, lv, st, h, k, n) := by
  subst hn
  have hs1 : P (pc + 2, am_pick kf lv, .int (Int32.ofNat a) :: st, h, k, n) := by
    subst hb0
    exact hs
  intro q H locs ls g1 g2 g3 g4 g5 g6 g7 g8
  exact lv_ldc C.1 C.2.1 C.2.2.2.2.1 (C.2.2.2.2.2.2.2.1 _ (am_mg hw rfl)) hd (hP _ (hs1) q H locs ls g1 g2 g3 g4 g5 (am_has_pick _ g6) g7 g8)
theorem am_o_ldcS (C : am_Cx p l e R s m args below meth c sc y d mc ms Φ D ty A q0 h0 Qf) (hP : ∀ x : am_S, P x → am_Wt p l e R s m args below meth c y mc ms D ty A q0 h0 Qf x) {idx : Nat} {len : Nat} (hd : decode (am_code y) pc = .ok (.ldc idx, len)) (hn : len = 2) (hb0 : b = 7) (hw : am_lds a (am_nm y).cls idx = true) (hs : am_ex E sc y mc ms Φ P (.ldc idx) a b kf kt tg pc lv st h k n) : am_Wt p l e R s m args below meth c y mc ms D ty A q0 h0 Qf (pc, lv, st, h, k, n) := by
  subst hn
  subst hb0
  replace hs : am_b _ _ := hs
  unfold am_b at hs
  split at hs
  rotate_left
  · exact hs.elim
  rename_i hh
  replace hh : h.length ≤ 2000000 := Nat.ble_eq.mp hh
  intro q H locs ls g1 g2 g3 g4 g5 g6 g7 g8
  have hq : ∀ i, q (am_pS + i) = q0 (am_pS + i) := fun i => g1 _ (Or.inr (Nat.le_trans hh (by show 2000000 ≤ 3000000 + i; omega)))
  unfold am_lds at hw
  simp only [Bool.or_eq_true, decide_eq_true_eq] at hw
  rcases hw with ⟨rfl, hw, rfl⟩ | ⟨rfl, hw, rfl⟩ | ⟨rfl, hw, rfl⟩ | ⟨rfl, hw, rfl⟩ | ⟨rfl, hw, rfl⟩ | ⟨rfl, hw, rfl⟩ | ⟨rfl, hw, rfl⟩
  · exact va_ldcS (own := am_so 0) (tx := am_stx 0) (q := q (am_pS + 0)) C.1 C.2.1 (by show s.vm.findClass "LockedToAnothers$LawBook" = _; rw [← hw]; exact C.2.2.2.2.1) (by rw [hq]; exact C.2.2.2.2.2.2.2.2.2.2.1.2.2.1 0 (by omega)) hd (hP _ (hs) q H locs ls g1 g2 g3 g4 g5 (am_has_pick _ g6) g7 g8)
  · exact va_ldcS (own := am_so 1) (tx := am_stx 1) (q := q (am_pS + 1)) C.1 C.2.1 (by show s.vm.findClass "LockedToAnothers$Reader" = _; rw [← hw]; exact C.2.2.2.2.1) (by rw [hq]; exact C.2.2.2.2.2.2.2.2.2.2.1.2.2.1 1 (by omega)) hd (hP _ (hs) q H locs ls g1 g2 g3 g4 g5 (am_has_pick _ g6) g7 g8)
  · exact va_ldcS (own := am_so 2) (tx := am_stx 2) (q := q (am_pS + 2)) C.1 C.2.1 (by show s.vm.findClass "LockedToAnothers$Reader" = _; rw [← hw]; exact C.2.2.2.2.1) (by rw [hq]; exact C.2.2.2.2.2.2.2.2.2.2.1.2.2.1 2 (by omega)) hd (hP _ (hs) q H locs ls g1 g2 g3 g4 g5 (am_has_pick _ g6) g7 g8)
  · exact va_ldcS (own := am_so 3) (tx := am_stx 3) (q := q (am_pS + 3)) C.1 C.2.1 (by show s.vm.findClass "LockedToAnothersLaw" = _; rw [← hw]; exact C.2.2.2.2.1) (by rw [hq]; exact C.2.2.2.2.2.2.2.2.2.2.1.2.2.1 3 (by omega)) hd (hP _ (hs) q H locs ls g1 g2 g3 g4 g5 (am_has_pick _ g6) g7 g8)
  · exact va_ldcS (own := am_so 4) (tx := am_stx 4) (q := q (am_pS + 4)) C.1 C.2.1 (by show s.vm.findClass "LockedToAnothersLaw" = _; rw [← hw]; exact C.2.2.2.2.1) (by rw [hq]; exact C.2.2.2.2.2.2.2.2.2.2.1.2.2.1 4 (by omega)) hd (hP _ (hs) q H locs ls g1 g2 g3 g4 g5 (am_has_pick _ g6) g7 g8)
  · exact va_ldcS (own := am_so 5) (tx := am_stx 5) (q := q (am_pS + 5)) C.1 C.2.1 (by show s.vm.findClass "LockedToAnothersLaw" = _; rw [← hw]; exact C.2.2.2.2.1) (by rw [hq]; exact C.2.2.2.2.2.2.2.2.2.2.1.2.2.1 5 (by omega)) hd (hP _ (hs) q H locs ls g1 g2 g3 g4 g5 (am_has_pick _ g6) g7 g8)
  · exact va_ldcS (own := am_so 6) (tx := am_stx 6) (q := q (am_pS + 6)) C.1 C.2.1 (by show s.vm.findClass "LockedToAnothersLaw" = _; rw [← hw]; exact C.2.2.2.2.1) (by rw [hq]; exact C.2.2.2.2.2.2.2.2.2.2.1.2.2.1 6 (by omega)) hd (hP _ (hs) q H locs ls g1 g2 g3 g4 g5 (am_has_pick _ g6) g7 g8)
theorem am_o_ldc_w (C : am_Cx p l e R s m args below meth c sc y d mc ms Φ D ty A q0 h0 Qf) (hP : ∀ x : am_S, P x → am_Wt p l e R s m args below meth c y mc ms D ty A q0 h0 Qf x) {idx : Nat} {len : Nat} (hd : decode (am_code y) pc = .ok (.ldc_w idx, len)) (hn : len = 3) (hw : Jvm.Cond.constant (am_nm y).cls idx (Int32.ofNat a) ∈ wt_tbl) (hs : am_ex E sc y mc ms Φ P (.ldc_w idx) a b kf kt tg pc lv st h k n) : am_Wt p l e R s m args below meth c y mc ms D ty A q0 h0 Qf (pc, lv, st, h, k, n) := by
  subst hn
  replace hs : am_b _ _ := hs
  unfold am_b at hs
  split at hs
  · intro q H locs ls g1 g2 g3 g4 g5 g6 g7 g8
    exact lv_ldcw C.1 C.2.1 C.2.2.2.2.1 (C.2.2.2.2.2.2.2.1 _ (am_mg hw rfl)) hd (hP _ (hs) q H locs ls g1 g2 g3 g4 g5 (am_has_pick _ g6) g7 g8)
  · exact hs.elim
theorem am_o_ldc2_w (C : am_Cx p l e R s m args below meth c sc y d mc ms Φ D ty A q0 h0 Qf) (hP : ∀ x : am_S, P x → am_Wt p l e R s m args below meth c y mc ms D ty A q0 h0 Qf x) {idx : Nat} {len : Nat} (hd : decode (am_code y) pc = .ok (.ldc2_w idx, len)) (hn : len = 3) (hw : (b = 1 ∧ Jvm.Cond.constantLong (am_nm y).cls idx (Int64.ofNat a) ∈ wt_tbl) ∨ (b = 2 ∧ Jvm.Cond.constantLong (am_nm y).cls idx (-(Int64.ofNat a)) ∈ wt_tbl)) (hs : am_ex E sc y mc ms Φ P (.ldc2_w idx) a b kf kt tg pc lv st h k n) : am_Wt p l e R s m args below meth c y mc ms D ty A q0 h0 Qf (pc, lv, st, h, k, n) := by
  subst hn
  rcases hw with ⟨rfl, hw⟩ | ⟨rfl, hw⟩
  · replace hs : P _ := hs
    intro q H locs ls g1 g2 g3 g4 g5 g6 g7 g8
    exact lv_ldc2 C.1 C.2.1 C.2.2.2.2.1 (C.2.2.2.2.2.2.2.1 _ (am_mg hw rfl)) hd (hP _ (hs) q H locs ls g1 g2 g3 g4 g5 (am_has_pick _ g6) g7 g8)
  · replace hs : P _ := hs
    intro q H locs ls g1 g2 g3 g4 g5 g6 g7 g8
    exact lv_ldc2 C.1 C.2.1 C.2.2.2.2.1 (C.2.2.2.2.2.2.2.1 _ (am_mg hw rfl)) hd (hP _ (hs) q H locs ls g1 g2 g3 g4 g5 (am_has_pick _ g6) g7 g8)
theorem am_o_new (C : am_Cx p l e R s m args below meth c sc y d mc ms Φ D ty A q0 h0 Qf) (hP : ∀ x : am_S, P x → am_Wt p l e R s m args below meth c y mc ms D ty A q0 h0 Qf x) {idx : Nat} {len : Nat} (hd : decode (am_code y) pc = .ok (.new idx, len)) (hn : len = 3) (hc : a < 9) (hw : Jvm.Cond.classLink (am_nm y).cls idx (am_R a) ∈ wt_tbl ∧ Jvm.Cond.instantiable (am_R a) (am_Nf a) ∈ wt_tbl ∧ Jvm.Cond.initialized (am_R a) ∈ wt_tbl) (hs : am_ex E sc y mc ms Φ P (.new idx) a b kf kt tg pc lv st h k n) : am_Wt p l e R s m args below meth c y mc ms D ty A q0 h0 Qf (pc, lv, st, h, k, n) := by
  subst hn
  replace hs : am_b _ (am_b _ _) := hs
  unfold am_b at hs
  split at hs
  · rename_i hn
    split at hs
    · rename_i hm
      simp only [Bool.and_eq_true] at hm
      intro q H locs ls g1 g2 g3 g4 g5 g6 g7 g8
      refine va_new (fs := am_dfl a) C.1 C.2.1 C.2.2.2.2.2.2.2.1 (fun w h9 => am_mg (am_cl_in hc w h9) (am_cl_good w h9)) (am_ty a) (am_ty_ok hc) C.2.2.2.2.1 (C.2.2.2.2.2.2.2.1 _ (am_mg hw.1 rfl)) (C.2.2.2.2.2.2.2.1 _ (am_mg hw.2.1 rfl)) (C.2.2.2.2.2.2.2.1 _ (am_mg hw.2.2 rfl)) C.2.2.2.2.2.2.2.2.1 g3 g4 g5 C.2.2.2.2.2.2.2.2.2.1 (am_cl_get hc) (fun j hj => am_dfl_V j hj) (Nat.le_trans (Nat.ble_eq.mp hm.1) C.2.2.2.1.1) (Nat.le_trans (Nat.ble_eq.mp hm.2) C.2.2.2.1.2.1) hd (fun q9 H1 P1 D1 S1 => ?_)
      obtain ⟨e1, e2, e3, e4, e5⟩ := am_new1 (q0 := q0) (q := q) (ty := ty) (h0 := h0) (h := h) (.inr (a, am_dfl a)) q9 g1 g2 hn
      have e6 : am_rc (va_up q h.length q9) ty (.inr (a, am_dfl a)) = .inr (a, am_dfl a) := by show Sum.inr (a, (am_dfl a).map _) = _; rw [am_dfl_map hc]
      rw [e6] at e3
      refine W.eq (g2 := F0 m (pc + 3) ls ((Value.ref h.length :: st).map (am_rv (va_up q h.length q9)))) ?_ ?_
      · show F0 m (pc + 3) ls (Value.ref q9 :: st.map (am_rv q)) = F0 m (pc + 3) ls (Value.ref (va_up q h.length q9 h.length) :: st.map (am_rv (va_up q h.length q9)))
        rw [e5]
        unfold va_up
        rw [if_pos rfl]
      · exact hP _ hs (va_up q h.length q9) H1 locs ls e1 e2 (by rw [e3]; exact P1) (by rw [e3]; exact D1) S1 (am_has_pick _ (by rw [e4]; exact g6)) (Nat.ble_eq.mp hm.1) (Nat.ble_eq.mp hm.2)
    · exact hs.elim
  · exact hs.elim
theorem am_o_newarray (C : am_Cx p l e R s m args below meth c sc y d mc ms Φ D ty A q0 h0 Qf) (hP : ∀ x : am_S, P x → am_Wt p l e R s m args below meth c y mc ms D ty A q0 h0 Qf x) {t : ArrayType} {len : Nat} (hd : decode (am_code y) pc = .ok (.newarray t, len)) (hn : len = 2)  (hs : am_ex E sc y mc ms Φ P (.newarray t) a b kf kt tg pc lv st h k n) : am_Wt p l e R s m args below meth c y mc ms D ty A q0 h0 Qf (pc, lv, st, h, k, n) := by
  subst hn
  replace hs : am_i1 st _ := hs
  unfold am_i1 at hs
  split at hs
  · rename_i x r
    unfold am_b at hs
    split at hs
    · rename_i hn
      split at hs
      · rename_i hm
        simp only [Bool.and_eq_true, Bool.not_eq_true', decide_eq_false_iff_not] at hm
        cases t with
        | int =>
          replace hs : P _ := hs
          intro q H locs ls g1 g2 g3 g4 g5 g6 g7 g8
          refine va_newa (atype := .int) (a0 := (x.toNatClampNeg, .inl (fun _ => 0))) C.1 C.2.1 (C.2.2.2.2.2.2.2.1 _ (am_mg am_wI rfl)) rfl C.2.2.2.2.2.2.2.2.1 g3 g4 g5 C.2.2.2.2.2.2.2.2.2.1 (fun _ => rfl) hm.1 rfl (by have := Nat.ble_eq.mp hm.2.1; show x.toNatClampNeg * 4 ≤ _; omega) (Nat.le_trans (Nat.ble_eq.mp hm.2.2.1) C.2.2.2.1.1) (Nat.le_trans (Nat.ble_eq.mp hm.2.2.2) C.2.2.2.1.2.1) hd (fun q9 cA H1 K1 P1 D1 S1 => ?_)
          have hcA := am_tys_uniq (k := 0) C.2.2.2.2.2.2.2.2.1 rfl K1
          subst hcA
          obtain ⟨e1, e2, e3, e4, e5⟩ := am_new1 (q0 := q0) (q := q) (ty := ty) (h0 := h0) (h := h) (.inl (0, x.toNatClampNeg, .inl (fun _ => 0))) q9 g1 g2 hn
          refine W.eq (g2 := F0 m (pc + 2) ls ((Value.ref h.length :: r).map (am_rv (va_up q h.length q9)))) ?_ ?_
          · show F0 m (pc + 2) ls (Value.ref q9 :: r.map (am_rv q)) = F0 m (pc + 2) ls (Value.ref (va_up q h.length q9 h.length) :: r.map (am_rv (va_up q h.length q9)))
            rw [e5]
            unfold va_up
            rw [if_pos rfl]
          · exact hP _ hs (va_up q h.length q9) H1 locs ls e1 e2 (by rw [e3]; exact P1) (by rw [e3]; exact D1) S1 (am_has_pick _ (by rw [e4]; exact g6)) (Nat.ble_eq.mp hm.2.2.1) (Nat.ble_eq.mp hm.2.2.2)
        | byte =>
          replace hs : P _ := hs
          intro q H locs ls g1 g2 g3 g4 g5 g6 g7 g8
          refine va_newa (atype := .byte) (a0 := (x.toNatClampNeg, .inl (fun _ => 0))) C.1 C.2.1 (C.2.2.2.2.2.2.2.1 _ (am_mg am_wB rfl)) rfl C.2.2.2.2.2.2.2.2.1 g3 g4 g5 C.2.2.2.2.2.2.2.2.2.1 (fun _ => rfl) hm.1 rfl (by have := Nat.ble_eq.mp hm.2.1; show x.toNatClampNeg * 1 ≤ _; omega) (Nat.le_trans (Nat.ble_eq.mp hm.2.2.1) C.2.2.2.1.1) (Nat.le_trans (Nat.ble_eq.mp hm.2.2.2) C.2.2.2.1.2.1) hd (fun q9 cA H1 K1 P1 D1 S1 => ?_)
          have hcA := am_tys_uniq (k := 4) C.2.2.2.2.2.2.2.2.1 rfl K1
          subst hcA
          obtain ⟨e1, e2, e3, e4, e5⟩ := am_new1 (q0 := q0) (q := q) (ty := ty) (h0 := h0) (h := h) (.inl (4, x.toNatClampNeg, .inl (fun _ => 0))) q9 g1 g2 hn
          refine W.eq (g2 := F0 m (pc + 2) ls ((Value.ref h.length :: r).map (am_rv (va_up q h.length q9)))) ?_ ?_
          · show F0 m (pc + 2) ls (Value.ref q9 :: r.map (am_rv q)) = F0 m (pc + 2) ls (Value.ref (va_up q h.length q9 h.length) :: r.map (am_rv (va_up q h.length q9)))
            rw [e5]
            unfold va_up
            rw [if_pos rfl]
          · exact hP _ hs (va_up q h.length q9) H1 locs ls e1 e2 (by rw [e3]; exact P1) (by rw [e3]; exact D1) S1 (am_has_pick _ (by rw [e4]; exact g6)) (Nat.ble_eq.mp hm.2.2.1) (Nat.ble_eq.mp hm.2.2.2)
        | long =>
          replace hs : P _ := hs
          intro q H locs ls g1 g2 g3 g4 g5 g6 g7 g8
          refine va_newa (atype := .long) (a0 := (x.toNatClampNeg, .inr (.inl (fun _ => 0)))) C.1 C.2.1 (C.2.2.2.2.2.2.2.1 _ (am_mg am_wJ rfl)) rfl C.2.2.2.2.2.2.2.2.1 g3 g4 g5 C.2.2.2.2.2.2.2.2.2.1 (fun _ => rfl) hm.1 rfl (by have := Nat.ble_eq.mp hm.2.1; show x.toNatClampNeg * 8 ≤ _; omega) (Nat.le_trans (Nat.ble_eq.mp hm.2.2.1) C.2.2.2.1.1) (Nat.le_trans (Nat.ble_eq.mp hm.2.2.2) C.2.2.2.1.2.1) hd (fun q9 cA H1 K1 P1 D1 S1 => ?_)
          have hcA := am_tys_uniq (k := 1) C.2.2.2.2.2.2.2.2.1 rfl K1
          subst hcA
          obtain ⟨e1, e2, e3, e4, e5⟩ := am_new1 (q0 := q0) (q := q) (ty := ty) (h0 := h0) (h := h) (.inl (1, x.toNatClampNeg, .inr (.inl (fun _ => 0)))) q9 g1 g2 hn
          refine W.eq (g2 := F0 m (pc + 2) ls ((Value.ref h.length :: r).map (am_rv (va_up q h.length q9)))) ?_ ?_
          · show F0 m (pc + 2) ls (Value.ref q9 :: r.map (am_rv q)) = F0 m (pc + 2) ls (Value.ref (va_up q h.length q9 h.length) :: r.map (am_rv (va_up q h.length q9)))
            rw [e5]
            unfold va_up
            rw [if_pos rfl]
          · exact hP _ hs (va_up q h.length q9) H1 locs ls e1 e2 (by rw [e3]; exact P1) (by rw [e3]; exact D1) S1 (am_has_pick _ (by rw [e4]; exact g6)) (Nat.ble_eq.mp hm.2.2.1) (Nat.ble_eq.mp hm.2.2.2)
        | _ => exact False.elim hs
      · exact hs.elim
    · exact hs.elim
  · exact hs.elim
theorem am_o_anewarray (C : am_Cx p l e R s m args below meth c sc y d mc ms Φ D ty A q0 h0 Qf) (hP : ∀ x : am_S, P x → am_Wt p l e R s m args below meth c y mc ms D ty A q0 h0 Qf x) {idx : Nat} {len : Nat} (hd : decode (am_code y) pc = .ok (.anewarray idx, len)) (hn : len = 3) (hw : Jvm.Cond.classLink (am_nm y).cls idx RX6 ∈ wt_tbl) (hs : am_ex E sc y mc ms Φ P (.anewarray idx) a b kf kt tg pc lv st h k n) : am_Wt p l e R s m args below meth c y mc ms D ty A q0 h0 Qf (pc, lv, st, h, k, n) := by
  subst hn
  replace hs : am_i1 st _ := hs
  unfold am_i1 at hs
  split at hs
  · rename_i x r
    unfold am_b at hs
    split at hs
    · rename_i hn
      split at hs
      · rename_i hm
        simp only [Bool.and_eq_true, Bool.not_eq_true', decide_eq_false_iff_not] at hm
        intro q H locs ls g1 g2 g3 g4 g5 g6 g7 g8
        refine va_newq (C := RX6) (N' := x.toNatClampNeg) C.1 C.2.1 C.2.2.2.2.1 (C.2.2.2.2.2.2.2.1 _ (am_mg hw rfl)) C.2.2.2.2.2.2.2.2.2.2.1.2.1.2.1 C.2.2.2.2.2.2.2.2.1 g3 g4 g5 C.2.2.2.2.2.2.2.2.2.1 hm.1 rfl (by have := Nat.ble_eq.mp hm.2.1; omega) (Nat.le_trans (Nat.ble_eq.mp hm.2.2.1) C.2.2.2.1.1) (Nat.le_trans (Nat.ble_eq.mp hm.2.2.2) C.2.2.2.1.2.1) hd (fun q9 cA H1 K1 P1 D1 S1 => ?_)
        have hcA := am_tys_uniq (k := 2) C.2.2.2.2.2.2.2.2.1 rfl K1
        subst hcA
        obtain ⟨e1, e2, e3, e4, e5⟩ := am_new1 (q0 := q0) (q := q) (ty := ty) (h0 := h0) (h := h) (.inl (2, x.toNatClampNeg, .inr (.inr (.inr (.inr (fun _ => none)))))) q9 g1 g2 hn
        have e6 : am_rc (va_up q h.length q9) ty (.inl (2, x.toNatClampNeg, .inr (.inr (.inr (.inr (fun _ => none)))))) = .inl (ty 2, x.toNatClampNeg, .inr (.inr (.inr (.inr (fun _ => none))))) := by
          show Sum.inl (ty 2, x.toNatClampNeg, Sum.inr (Sum.inr (Sum.inr (Sum.inr (fun i => if i < x.toNatClampNeg then Option.map _ none else none))))) = _
          congr 7
          funext i
          split <;> rfl
        rw [e6] at e3
        refine W.eq (g2 := F0 m (pc + 3) ls ((Value.ref h.length :: r).map (am_rv (va_up q h.length q9)))) ?_ ?_
        · show F0 m (pc + 3) ls (Value.ref q9 :: r.map (am_rv q)) = F0 m (pc + 3) ls (Value.ref (va_up q h.length q9 h.length) :: r.map (am_rv (va_up q h.length q9)))
          rw [e5]
          unfold va_up
          rw [if_pos rfl]
        · exact hP _ hs (va_up q h.length q9) H1 locs ls e1 e2 (by rw [e3]; exact P1) (by rw [e3]; exact D1) S1 (am_has_pick _ (by rw [e4]; exact g6)) (Nat.ble_eq.mp hm.2.2.1) (Nat.ble_eq.mp hm.2.2.2)
      · exact hs.elim
    · exact hs.elim
  · exact hs.elim
theorem am_o_ireturn (C : am_Cx p l e R s m args below meth c sc y d mc ms Φ D ty A q0 h0 Qf) (hP : ∀ x : am_S, P x → am_Wt p l e R s m args below meth c y mc ms D ty A q0 h0 Qf x)  {len : Nat} (hd : decode (am_code y) pc = .ok (.ireturn, len)) (hn : len = 1)  (hs : am_ex E sc y mc ms Φ P (.ireturn) a b kf kt tg pc lv st h k n) : am_Wt p l e R s m args below meth c y mc ms D ty A q0 h0 Qf (pc, lv, st, h, k, n) := by
  subst hn
  unfold am_ex at hs
  dsimp only at hs
  split at hs
  · split at hs
    · rename_i x _ t ht
      intro q H locs ls g1 g2 g3 g4 g5 g6 g7 g8
      exact C.2.2.2.2.2.2.2.2.2.2.2 .ireturn (some (.int x)) h q H locs ls pc k n ⟨t, ht, hs.1⟩ hd hs.2 g1 g2 g3 g4 g5 g7 g8
    · exact hs.elim
  · exact hs.elim
theorem am_o_lreturn (C : am_Cx p l e R s m args below meth c sc y d mc ms Φ D ty A q0 h0 Qf) (hP : ∀ x : am_S, P x → am_Wt p l e R s m args below meth c y mc ms D ty A q0 h0 Qf x)  {len : Nat} (hd : decode (am_code y) pc = .ok (.lreturn, len)) (hn : len = 1)  (hs : am_ex E sc y mc ms Φ P (.lreturn) a b kf kt tg pc lv st h k n) : am_Wt p l e R s m args below meth c y mc ms D ty A q0 h0 Qf (pc, lv, st, h, k, n) := by
  subst hn
  unfold am_ex at hs
  dsimp only at hs
  split at hs
  · rename_i x
    unfold am_b at hs
    split at hs
    · rename_i ht
      have ht9 : am_ret y = some .long := of_decide_eq_true ht
      intro q H locs ls g1 g2 g3 g4 g5 g6 g7 g8
      exact C.2.2.2.2.2.2.2.2.2.2.2 .lreturn (some (.long x)) h q H locs ls pc k n ht9 hd hs g1 g2 g3 g4 g5 g7 g8
    · exact hs.elim
  · exact hs.elim
theorem am_o_areturn (C : am_Cx p l e R s m args below meth c sc y d mc ms Φ D ty A q0 h0 Qf) (hP : ∀ x : am_S, P x → am_Wt p l e R s m args below meth c y mc ms D ty A q0 h0 Qf x)  {len : Nat} (hd : decode (am_code y) pc = .ok (.areturn, len)) (hn : len = 1)  (hs : am_ex E sc y mc ms Φ P (.areturn) a b kf kt tg pc lv st h k n) : am_Wt p l e R s m args below meth c y mc ms D ty A q0 h0 Qf (pc, lv, st, h, k, n) := by
  subst hn
  unfold am_ex at hs
  dsimp only at hs
  split at hs
  · rename_i x
    split at hs
    · rename_i n9 ht
      intro q H locs ls g1 g2 g3 g4 g5 g6 g7 g8
      exact C.2.2.2.2.2.2.2.2.2.2.2 .areturn (some (.ref x)) h q H locs ls pc k n ⟨_, ht, Or.inl ⟨_, rfl⟩⟩ hd hs g1 g2 g3 g4 g5 g7 g8
    · rename_i n9 ht
      intro q H locs ls g1 g2 g3 g4 g5 g6 g7 g8
      exact C.2.2.2.2.2.2.2.2.2.2.2 .areturn (some (.ref x)) h q H locs ls pc k n ⟨_, ht, Or.inr ⟨_, rfl⟩⟩ hd hs g1 g2 g3 g4 g5 g7 g8
    · exact hs.elim
  · exact hs.elim
theorem am_o_return_ (C : am_Cx p l e R s m args below meth c sc y d mc ms Φ D ty A q0 h0 Qf) (hP : ∀ x : am_S, P x → am_Wt p l e R s m args below meth c y mc ms D ty A q0 h0 Qf x)  {len : Nat} (hd : decode (am_code y) pc = .ok (.return_, len)) (hn : len = 1)  (hs : am_ex E sc y mc ms Φ P (.return_) a b kf kt tg pc lv st h k n) : am_Wt p l e R s m args below meth c y mc ms D ty A q0 h0 Qf (pc, lv, st, h, k, n) := by
  subst hn
  unfold am_ex at hs
  dsimp only at hs
  split at hs
  · unfold am_b at hs
    split at hs
    · rename_i ht
      have ht9 : am_ret y = none := of_decide_eq_true ht
      intro q H locs ls g1 g2 g3 g4 g5 g6 g7 g8
      exact C.2.2.2.2.2.2.2.2.2.2.2 .return_ none h q H locs ls pc k n ht9 hd hs g1 g2 g3 g4 g5 g7 g8
    · exact hs.elim
  · exact hs.elim
theorem am_o_tableswitch (C : am_Cx p l e R s m args below meth c sc y d mc ms Φ D ty A q0 h0 Qf) (hP : ∀ x : am_S, P x → am_Wt p l e R s m args below meth c y mc ms D ty A q0 h0 Qf x) {dflt lo hi : Int} {offs : Array Int} {len : Nat} (hd : decode (am_code y) pc = .ok (.tableswitch dflt lo hi offs, len)) (ht : ∀ dd ts, tg = dd :: ts → (pc : Int) + dflt = (dd.1 : Int) ∧ hi = lo + (ts.length : Int) - 1 ∧ am_tok pc offs.toList ts = true) (hs : am_ex E sc y mc ms Φ P (.tableswitch dflt lo hi offs) a b kf kt tg pc lv st h k n) : am_Wt p l e R s m args below meth c y mc ms D ty A q0 h0 Qf (pc, lv, st, h, k, n) := by
  replace hs : am_i1 st _ := hs
  unfold am_i1 at hs
  split at hs
  · rename_i x r
    split at hs
    · exact hs.elim
    · rename_i dd ts
      obtain ⟨h1, h2, h3⟩ := ht dd ts rfl
      have hl := am_tok_len _ _ h3
      intro q H locs ls g1 g2 g3 g4 g5 g6 g7 g8
      by_cases hx : x.toInt < lo ∨ hi < x.toInt
      · exact lv_tableOut C.1 C.2.1 hd hx h1 (hP _ (am_sw_out ts lo hs (by omega)) q H locs ls g1 g2 g3 g4 g5 (am_has_pick (some dd.2) g6) g7 g8)
      · have hi9 : (x.toInt - lo).toNat < offs.toList.length := by omega
        obtain ⟨t9, ht9, he9⟩ := am_tok_get _ _ h3 (x.toInt - lo).toNat _ (List.getElem?_eq_getElem hi9)
        exact lv_tableIn C.1 C.2.1 hd (fun q => hx (Or.inl q)) (fun q => hx (Or.inr q)) (by rw [← Array.getElem?_toList]; exact List.getElem?_eq_getElem hi9) he9 (hP _ (am_sw_in ts lo hs _ t9 ht9 (by omega)) q H locs ls g1 g2 g3 g4 g5 (am_has_pick (some t9.2) g6) g7 g8)
  · exact hs.elim
theorem am_o_lookupswitch (C : am_Cx p l e R s m args below meth c sc y d mc ms Φ D ty A q0 h0 Qf) (hP : ∀ x : am_S, P x → am_Wt p l e R s m args below meth c y mc ms D ty A q0 h0 Qf x) {dflt : Int} {ps : Array (Int × Int)} {len : Nat} (hd : decode (am_code y) pc = .ok (.lookupswitch dflt ps, len)) (ht : ∀ dd ts, tg = dd :: ts → (pc : Int) + dflt = (dd.1 : Int) ∧ (ps.toList.zip (ps.toList.drop 1)).all (fun (a, next) => a.1 < next.1) = true ∧ am_lok pc ps.toList ts = true) (hs : am_ex E sc y mc ms Φ P (.lookupswitch dflt ps) a b kf kt tg pc lv st h k n) : am_Wt p l e R s m args below meth c y mc ms D ty A q0 h0 Qf (pc, lv, st, h, k, n) := by
  replace hs : am_i1 st _ := hs
  unfold am_i1 at hs
  split at hs
  · rename_i x r
    split at hs
    · exact hs.elim
    · rename_i dd ts
      obtain ⟨h1, h2, h3⟩ := ht dd ts rfl
      obtain ⟨t9, k9, e9⟩ := am_lw_ok h1 _ _ h3 hs
      intro q H locs ls g1 g2 g3 g4 g5 g6 g7 g8
      exact lv_lookup C.1 C.2.1 hd h2 rfl e9 (hP _ (k9) q H locs ls g1 g2 g3 g4 g5 (am_has_pick (some t9.2) g6) g7 g8)
  · exact hs.elim
end OPS
end
section
/-! ===== calls ===== -/
section OPS
variable {p : Program} {l : Launch} {e : Env} {R : Room} {s : State} {m : MethodId} {args : Array Value} {below : List Frame} {meth : Method} {c : Code} {sc : Option (Nat × (Nat → Int32))} {y d mc ms : Nat} {Φ : Option Value → am_H → Prop} {D : va_G} {ty : Nat → ClassId} {A : Nat → Prop} {q0 : Nat → Nat} {h0 : am_H} {Qf : State → Prop}
variable {E : am_E} {P : am_S → Prop} {pc a b k n : Nat} {kf kt : Option (List Nat)} {tg : List (Nat × List Nat)} {lv : am_L} {st : List Value} {h : am_H}
theorem am_blind {sc : Option (Nat × (Nat → Int32))} {D : va_G} {ty : Nat → ClassId} {q : Nat → Nat} {h : am_H} {sz : Nat} {av : List Value} : FrameBlind (va_Pc av (am_P sc D ty q h sz)) := fun a U g mk w => by
  obtain ⟨w0, w1, w2, w3, w4, w5⟩ := w
  exact ⟨w0, w1, w2, va_K.moved (u := U) (U := U.calling g mk a) (Vm.Alike.refl U.vm) w3, w4, am_X_same (u := U) (U := U.calling g mk a) rfl w5⟩
theorem am_goodin {z : Nat} (hz : am_mok z) : GoodIn am_tblg (am_ws z) := by
  intro w hw
  rcases List.mem_cons.mp hw with e | hw
  · subst e
    exact ⟨am_mg hz.1 rfl, good_of_word rfl⟩
  · exact ⟨hw, good_of_word (List.mem_filter.mp hw).2⟩
/-- what a callee needs of its start -/
theorem am_start (C : am_Cx p l e R s m args below meth c sc y d mc ms Φ D ty A q0 h0 Qf) {q : Nat → Nat} {H : Heap} {locs : List Loc} {as : List Value} (hh : h.length ≤ am_pX) (g1 : am_ag q0 q h0.length h.length) (g3 : va_P D vwCl (am_rz q ty h) H) (g4 : va_D A (am_rz q ty h)) (g5 : va_S A s.heap H locs) :
    PreS s H (va_Pc (as.map (am_rv q)) (am_P sc D ty q h H.size)) (as.map (am_rv q)) ∧ (∀ x, va_A (am_rz q ty h) H.size x → A x) := by
  have hA1 : ∀ x, va_A (am_rz q ty h) H.size x → A x := fun x hx => by
    rcases hx with ⟨k9, e9, hx⟩ | hx
    · exact g4.2 k9 _ hx
    · exact C.2.2.2.2.2.2.2.2.2.1 x (Nat.le_trans g5.1 hx)
  refine ⟨⟨am_blind, fun U hU hW => ⟨rfl, by rw [hU], by rw [hU]; exact g3, va_K.moved hW.alike C.2.2.2.2.2.2.2.2.1, g4.weaken (fun _ _ _ _ => trivial), ?_⟩⟩, hA1⟩
  rw [hU]
  exact am_X_warm hW (am_X_narrow (am_X_kept (am_X_ag g1 hh C.2.2.2.2.2.2.2.2.2.2.1) g5.2.1) hA1)
/-- behind a call -/
theorem am_after (C : am_Cx p l e R s m args below meth c sc y d mc ms Φ D ty A q0 h0 Qf) (hP : ∀ x : am_S, P x → am_Wt p l e R s m args below meth c y mc ms D ty A q0 h0 Qf x) {z mc1 ms1 : Nat} {as rest : List Value} {r : Option Value} {h1 : am_H} {q : Nat → Nat} {H : Heap} {locs : List Loc} {ls : Array Slot} {av : Array Value} (hle : h.length ≤ h1.length) (hk : k + mc1 ≤ mc) (hm : n + ms1 ≤ ms) (hr : h1.length = h.length ∨ am_nh h.length h1.length lv rest [] = true) (hp : P (pc + 3, am_pick kf lv, r.toList ++ rest, h1, k + mc1, n + ms1))
    (g1 : am_ag q0 q h0.length h.length) (g2 : h0.length ≤ h.length) (g5 : va_S A s.heap H locs) (g6 : lv_has ls (am_ml y) (am_rl q lv)) (hA1 : ∀ x, va_A (am_rz q ty h) H.size x → A x)
    (hrun : va_Run p l e (R) s m args below meth c H locs k n mc1 ms1 (F0 m pc ls st) (rest.map (am_rv q)) (am_Q D ty q h r h1 H.size av) (va_A (am_rz q ty h) H.size)) :
    W p l e (R) s m args below meth c H locs k n Qf (F0 m pc ls st) := by
  intro T hT X
  obtain ⟨v, st₀, t, T1, L, w0, X1, hL, e1, e2, ⟨⟨q1, f1, f2, f3, f4, f5⟩, f6⟩, stp⟩ := hrun T hT X
  have hv : v = r.map (am_rv q1) := by
    injection f2
  have hrest : rest.map (am_rv q1) = rest.map (am_rv q) ∧ am_rl q1 lv = am_rl q lv := by
    rcases hr with hr | hr
    · have hq : q1 = q := by
        funext j
        refine f1 j ?_
        rw [hr]
        omega
      rw [hq]
      exact ⟨rfl, rfl⟩
    · simp only [am_nh, Bool.and_eq_true] at hr
      exact ⟨am_ns_rv f1 hr.2.1, am_nl_rl f1 hr.1⟩
  have hz : va_S A s.heap T1.heap (locs ++ L) := by
    rw [e1]
    refine ⟨Nat.le_trans g5.1 (by rw [← w0]; exact f6.1), fun x h8 h9 => ?_, fun x hx => ?_⟩
    · rw [f6.2 x (by rw [w0]; exact Nat.lt_of_lt_of_le h8 g5.1) (fun w => h9 (hA1 x w)), w0]
      exact g5.2.1 x h8 h9
    · rcases List.mem_append.mp hx with hx | hx
      · exact g5.2.2 x hx
      · exact hA1 _ (hL x hx)
  have kk := hP _ hp q1 T1.heap (locs ++ L) ls (fun j hj => by
      have hj : j < h0.length ∨ h1.length ≤ j := hj
      rw [f1 j (by omega)]
      exact g1 j (by omega)) (Nat.le_trans g2 hle) (by rw [e1]; exact f3) ⟨f5.1, fun k9 x hx => hA1 _ (f5.2 k9 x hx)⟩ hz (am_has_pick _ (by rw [hrest.2]; exact g6)) hk hm
  obtain ⟨t2, a1, b1⟩ := kk T1 rfl X1
  refine ⟨t2, stp t2 ?_, b1⟩
  have es : v.toList ++ rest.map (am_rv q) = (r.toList ++ rest).map (am_rv q1) := by
    rw [hv, List.map_append, hrest.1]
    cases r <;> rfl
  rw [es]
  exact a1
theorem am_catm {q : Nat → Nat} (rest : List Value) : ((rest.map (am_rv q)).map fun v => v.category).sum = am_cat rest := by
  unfold am_cat
  rw [List.map_map]
  congr 1
  apply List.map_congr_left
  intro x _
  exact am_rv_cat q x
theorem am_v_sup : Jvm.Cond.superclass "java/lang/StringBuilder" "java/lang/AbstractStringBuilder" ∈ wt_tbl := List.mem_of_getElem? (i := 690) (by decide +kernel)
theorem am_v_same : Jvm.Cond.sameMethod "java/lang/AbstractStringBuilder" "java/lang/AbstractStringBuilder" "length" "()I" ∈ wt_tbl := List.mem_of_getElem? (i := 828) (by decide +kernel)
theorem am_v_sel : Jvm.Cond.selects "java/lang/StringBuilder" ⟨"java/lang/AbstractStringBuilder", "length", "()I"⟩ ⟨"java/lang/StringBuilder", "length", "()I"⟩ ∈ wt_tbl := List.mem_of_getElem? (i := 829) (by decide +kernel)
theorem am_o_invokestatic (C : am_Cx p l e R s m args below meth c sc y d mc ms Φ D ty A q0 h0 Qf) (hP : ∀ x : am_S, P x → am_Wt p l e R s m args below meth c y mc ms D ty A q0 h0 Qf x) {idx : Nat} (hE : ∀ (z : Nat) (as : List Value) (h : am_H) (r : Option Value) (h1 : am_H) (mc1 ms1 : Nat), z < 129 → E z as h r h1 mc1 ms1 → am_MetD sc l d D ty z as h r h1 mc1 ms1) {len : Nat} (hd : decode (am_code y) pc = .ok (.invokestatic idx, len)) (hn : len = 3) (ha : Nat.ble 9000 a = false) (hlt : a < 129) (hz : am_mok a) (hw : (b = 0 ∧ Jvm.Cond.methodLink (am_nm y).cls idx (am_nm a) ∈ wt_tbl) ∨ (b = 1 ∧ ∃ host, Jvm.Cond.methodLinkNest (am_nm y).cls idx (am_nm a) host ∈ wt_tbl)) (hs : am_ex E sc y mc ms Φ P (.invokestatic idx) a b kf kt tg pc lv st h k n) : am_Wt p l e R s m args below meth c y mc ms D ty A q0 h0 Qf (pc, lv, st, h, k, n) := by
  subst hn
  unfold am_ex at hs
  dsimp only at hs
  rw [ha] at hs
  dsimp only at hs
  split at hs
  · rename_i as rest ht
    unfold am_b at hs
    split at hs
    · rename_i hkd
      have hkd := Nat.eq_of_beq_eq_true hkd
      unfold am_call am_b at hs
      split at hs
      · rename_i hcat
        simp only [Bool.and_eq_true] at hcat
        have hh := Nat.ble_eq.mp hcat.2
        replace hcat := hcat.1
        obtain ⟨r, h1, mc1, ms1, he, hle, hk9, hm9, hr, hp⟩ := hs
        obtain ⟨xs, ex1, ex2, ex3⟩ := am_take_ok _ _ _ _ _ ht
        rw [List.append_nil] at ex1
        subst ex1
        intro q H locs ls g1 g2 g3 g4 g5 g6 g7 g8
        obtain ⟨hpre, hA1⟩ := am_start (as := as) C hh g1 g3 g4 g5
        have hM := hE a as h r h1 mc1 ms1 hlt he q H.size hle
        have hkw : (match am_kd a with | 0 => Jvm.Cond.static (am_nm a) | _ => Jvm.Cond.instanceMethod (am_nm a)) ∈ wt_tbl := hz.2.1
        rw [hkd] at hkw
        have hst : st.map (am_rv q) = (as.map (am_rv q)).reverse ++ rest.map (am_rv q) := by
          rw [ex2, List.map_append, List.map_reverse]
        refine am_after (z := a) (as := as) C hP hle hk9 hm9 hr hp g1 g2 g5 g6 hA1 (?_ : va_Run p l e R s m args below meth c H locs k n mc1 ms1 (F0 m pc ls (st.map (am_rv q))) (rest.map (am_rv q)) (am_Q D ty q h r h1 H.size (List.map (am_rv q) as).toArray) (va_A (am_rz q ty h) H.size))
        rcases hw with ⟨-, hw⟩ | ⟨-, host, hw⟩
        · exact va_runS (As := as.map (am_rv q)) ⟨C.1, C.2.1, C.2.2.1, C.2.2.2.2.1, C.2.2.2.2.2.2.2.1⟩ hM ⟨callB_of (am_na a) C.2.2.2.2.2.2.2.1 (am_goodin hz) rfl rfl rfl (C.2.2.2.2.2.2.2.1 _ (am_mg hz.2.2.2.2.2.1 rfl)) (C.2.2.2.2.2.2.2.1 _ (am_mg hw rfl)) hz.2.2.2.2.2.2.1 ⟨C.2.2.2.1.2.2.1, Nat.le_trans (by show 8 + (am_ml a + 11) + 60 * (d + 3) ≤ 60 * (d + 4); have := hz.2.2.2.2.2.2.2.1; omega) C.2.2.2.1.2.2.2⟩, C.2.2.2.2.2.2.2.1 _ (am_mg hkw rfl)⟩ hpre rfl (by rw [List.length_map]; exact ex3) g6.1 hst (lv_room (by rw [am_catm]; exact Nat.ble_eq.mp hcat)) hd ⟨Nat.le_trans hk9 C.2.2.2.1.1, Nat.le_trans hm9 C.2.2.2.1.2.1⟩
        · exact va_runSN (As := as.map (am_rv q)) ⟨C.1, C.2.1, C.2.2.1, C.2.2.2.2.1, C.2.2.2.2.2.2.2.1⟩ hM ⟨va_cnB (am_na a) C.2.2.2.2.2.2.2.1 (am_goodin hz) rfl rfl rfl (C.2.2.2.2.2.2.2.2.2.2.1.2.1.1 _ hw rfl) (C.2.2.2.2.2.2.2.1 _ (am_mg hz.2.2.2.2.2.1 rfl)) hz.2.2.2.2.2.2.1 ⟨C.2.2.2.1.2.2.1, Nat.le_trans (by show 8 + (am_ml a + 11) + 60 * (d + 3) ≤ 60 * (d + 4); have := hz.2.2.2.2.2.2.2.1; omega) C.2.2.2.1.2.2.2⟩, C.2.2.2.2.2.2.2.1 _ (am_mg hkw rfl), trivial⟩ hpre rfl (by rw [List.length_map]; exact ex3) g6.1 hst (lv_room (by rw [am_catm]; exact Nat.ble_eq.mp hcat)) hd ⟨Nat.le_trans hk9 C.2.2.2.1.1, Nat.le_trans hm9 C.2.2.2.1.2.1⟩
      · exact hs.elim
    · exact hs.elim
  · exact hs.elim
theorem am_o_invokevirtual (C : am_Cx p l e R s m args below meth c sc y d mc ms Φ D ty A q0 h0 Qf) (hP : ∀ x : am_S, P x → am_Wt p l e R s m args below meth c y mc ms D ty A q0 h0 Qf x) {idx : Nat} (hE : ∀ (z : Nat) (as : List Value) (h : am_H) (r : Option Value) (h1 : am_H) (mc1 ms1 : Nat), z < 129 → E z as h r h1 mc1 ms1 → am_MetD sc l d D ty z as h r h1 mc1 ms1) {len : Nat} (hd : decode (am_code y) pc = .ok (.invokevirtual idx, len)) (hn : len = 3) (ha : Nat.ble 9000 a = false) (hlt : a < 129) (hz : am_mok a) (hw3 : (b = 2 ∧ am_nm a = ⟨"java/lang/StringBuilder", "length", "()I"⟩ ∧ Jvm.Cond.methodLink (am_nm y).cls idx ⟨"java/lang/AbstractStringBuilder", "length", "()I"⟩ ∈ wt_tbl) ∨ (b = 0 ∧ Jvm.Cond.methodLink (am_nm y).cls idx (am_nm a) ∈ wt_tbl) ∨ (b = 1 ∧ ∃ host, Jvm.Cond.methodLinkNest (am_nm y).cls idx (am_nm a) host ∈ wt_tbl)) (hs : am_ex E sc y mc ms Φ P (.invokevirtual idx) a b kf kt tg pc lv st h k n) : am_Wt p l e R s m args below meth c y mc ms D ty A q0 h0 Qf (pc, lv, st, h, k, n) := by
  subst hn
  unfold am_ex at hs
  dsimp only at hs
  rw [ha] at hs
  dsimp only at hs
  split at hs
  · rename_i as o rest ht
    cases hkd1 : Nat.beq (am_kd a) 1 with
    | true =>
      rw [hkd1] at hs
      dsimp only at hs
      have hkd := Nat.eq_of_beq_eq_true hkd1
      have hcl9 := hz.2.2.2.1 hkd
      cases h90 : (Nat.beq (am_ci a) 8 && Nat.ble am_pS o) with
      | true =>
        rw [h90] at hs
        dsimp only at hs
        simp only [Bool.and_eq_true] at h90
        unfold am_b at hs
        split at hs
        · rename_i hb
          simp only [Bool.and_eq_true, Bool.not_eq_true'] at hb
          have hb2 := hb.2
          have e8 := Nat.eq_of_beq_eq_true h90.1
          have hcl : (am_nm a).cls = "java/lang/String" := by rw [hcl9.1, e8]; rfl
          obtain ⟨i9, hi9, eo⟩ : ∃ i9, i9 < 7 ∧ o = am_pS + i9 := am_sp (Nat.ble_eq.mp h90.2) (Nat.ble_eq.mp hb.1)
          have hw : (b = 0 ∧ Jvm.Cond.methodLink (am_nm y).cls idx (am_nm a) ∈ wt_tbl) ∨ (b = 1 ∧ ∃ host, Jvm.Cond.methodLinkNest (am_nm y).cls idx (am_nm a) host ∈ wt_tbl) := by
            rcases hw3 with e | e
            · rw [e.1] at hb2
              cases hb2
            · exact e
          unfold am_call am_b at hs
          split at hs
          · rename_i hcat
            simp only [Bool.and_eq_true] at hcat
            have hh := Nat.ble_eq.mp hcat.2
            replace hcat := hcat.1
            obtain ⟨r, h1, mc1, ms1, he, hle, hk9, hm9, hr, hp⟩ := hs
            obtain ⟨xs, ex1, ex2, ex3⟩ := am_take_ok _ _ _ _ _ ht
            rw [List.append_nil] at ex1
            subst ex1
            intro q H locs ls g1 g2 g3 g4 g5 g6 g7 g8
            obtain ⟨hpre, hA1⟩ := am_start (as := (.ref o :: as)) C hh g1 g3 g4 g5
            have hM := hE a (.ref o :: as) h r h1 mc1 ms1 hlt he q H.size hle
            have hkw : (match am_kd a with | 0 => Jvm.Cond.static (am_nm a) | _ => Jvm.Cond.instanceMethod (am_nm a)) ∈ wt_tbl := hz.2.1
            rw [hkd] at hkw
            have hst : st.map (am_rv q) = (as.map (am_rv q)).reverse ++ .ref (q o) :: rest.map (am_rv q) := by
              rw [ex2, List.map_append, List.map_reverse]
              rfl
            refine am_after (z := a) (as := (.ref o :: as)) C hP hle hk9 hm9 hr hp g1 g2 g5 g6 hA1 (?_ : va_Run p l e R s m args below meth c H locs k n mc1 ms1 (F0 m pc ls (st.map (am_rv q))) (rest.map (am_rv q)) (am_Q D ty q h r h1 H.size (List.map (am_rv q) (.ref o :: as)).toArray) (va_A (am_rz q ty h) H.size))
            rcases hw with ⟨-, hw⟩ | ⟨-, host, hw⟩
            · exact va_runV (C := "java/lang/String") (As := as.map (am_rv q)) ⟨C.1, C.2.1, C.2.2.1, C.2.2.2.2.1, C.2.2.2.2.2.2.2.1⟩ hM ⟨callB_of (am_na a) C.2.2.2.2.2.2.2.1 (am_goodin hz) rfl rfl rfl (C.2.2.2.2.2.2.2.1 _ (am_mg hz.2.2.2.2.2.1 rfl)) (C.2.2.2.2.2.2.2.1 _ (am_mg hw rfl)) hz.2.2.2.2.2.2.1 ⟨C.2.2.2.1.2.2.1, Nat.le_trans (by show 8 + (am_ml a + 11) + 60 * (d + 3) ≤ 60 * (d + 4); have := hz.2.2.2.2.2.2.2.1; omega) C.2.2.2.1.2.2.2⟩, C.2.2.2.2.2.2.2.1 _ (am_mg hkw rfl), by rw [← hcl]; exact C.2.2.2.2.2.2.2.1 _ (am_mg (hz.2.2.1 hkd) rfl)⟩ ⟨hpre.1, (by rw [eo]; exact vk_recv (adK := fun i => q (am_pS + i)) (i := i9) (am_X_ag g1 hh C.2.2.2.2.2.2.2.2.2.2.1).1.2.1 hi9 g5), hpre.2⟩ rfl (by rw [List.length_map]; exact ex3) g6.1 hst (lv_room (by rw [am_catm]; exact Nat.ble_eq.mp hcat)) hd ⟨Nat.le_trans hk9 C.2.2.2.1.1, Nat.le_trans hm9 C.2.2.2.1.2.1⟩
            · exact va_runVN (C := "java/lang/String") (As := as.map (am_rv q)) ⟨C.1, C.2.1, C.2.2.1, C.2.2.2.2.1, C.2.2.2.2.2.2.2.1⟩ hM ⟨va_cnB (am_na a) C.2.2.2.2.2.2.2.1 (am_goodin hz) rfl rfl rfl (C.2.2.2.2.2.2.2.2.2.2.1.2.1.1 _ hw rfl) (C.2.2.2.2.2.2.2.1 _ (am_mg hz.2.2.2.2.2.1 rfl)) hz.2.2.2.2.2.2.1 ⟨C.2.2.2.1.2.2.1, Nat.le_trans (by show 8 + (am_ml a + 11) + 60 * (d + 3) ≤ 60 * (d + 4); have := hz.2.2.2.2.2.2.2.1; omega) C.2.2.2.1.2.2.2⟩, C.2.2.2.2.2.2.2.1 _ (am_mg hkw rfl), by rw [← hcl]; exact C.2.2.2.2.2.2.2.1 _ (am_mg (hz.2.2.1 hkd) rfl)⟩ ⟨hpre.1, (by rw [eo]; exact vk_recv (adK := fun i => q (am_pS + i)) (i := i9) (am_X_ag g1 hh C.2.2.2.2.2.2.2.2.2.2.1).1.2.1 hi9 g5), hpre.2⟩ rfl (by rw [List.length_map]; exact ex3) g6.1 hst (lv_room (by rw [am_catm]; exact Nat.ble_eq.mp hcat)) hd ⟨Nat.le_trans hk9 C.2.2.2.1.1, Nat.le_trans hm9 C.2.2.2.1.2.1⟩
          · exact hs.elim
        · exact hs.elim
      | false =>
        rw [h90] at hs
        dsimp only at hs
        unfold am_obj at hs
        split at hs
        · rename_i x hx
          obtain ⟨ci, fs⟩ := x
          try unfold am_b at hs
          split at hs
          · rename_i hb
            simp only [Bool.and_eq_true, Bool.not_eq_true'] at hb
            have hci := Nat.eq_of_beq_eq_true hb.1
            have h8 := Nat.ble_eq.mp hb.2.1
            have hb2 := hb.2.2
            try dsimp only at hci
            try dsimp only at h8
            subst hci
            have hcl : (am_nm a).cls = am_R (am_ci a) := hcl9.1
            have hw : (b = 0 ∧ Jvm.Cond.methodLink (am_nm y).cls idx (am_nm a) ∈ wt_tbl) ∨ (b = 1 ∧ ∃ host, Jvm.Cond.methodLinkNest (am_nm y).cls idx (am_nm a) host ∈ wt_tbl) := by
              rcases hw3 with e | e
              · rw [e.1] at hb2
                cases hb2
              · exact e
            unfold am_call am_b at hs
            split at hs
            · rename_i hcat
              simp only [Bool.and_eq_true] at hcat
              have hh := Nat.ble_eq.mp hcat.2
              replace hcat := hcat.1
              obtain ⟨r, h1, mc1, ms1, he, hle, hk9, hm9, hr, hp⟩ := hs
              obtain ⟨xs, ex1, ex2, ex3⟩ := am_take_ok _ _ _ _ _ ht
              rw [List.append_nil] at ex1
              subst ex1
              intro q H locs ls g1 g2 g3 g4 g5 g6 g7 g8
              obtain ⟨hpre, hA1⟩ := am_start (as := (.ref o :: as)) C hh g1 g3 g4 g5
              have hM := hE a (.ref o :: as) h r h1 mc1 ms1 hlt he q H.size hle
              have hkw : (match am_kd a with | 0 => Jvm.Cond.static (am_nm a) | _ => Jvm.Cond.instanceMethod (am_nm a)) ∈ wt_tbl := hz.2.1
              rw [hkd] at hkw
              have hst : st.map (am_rv q) = (as.map (am_rv q)).reverse ++ .ref (q o) :: rest.map (am_rv q) := by
                rw [ex2, List.map_append, List.map_reverse]
                rfl
              refine am_after (z := a) (as := (.ref o :: as)) C hP hle hk9 hm9 hr hp g1 g2 g5 g6 hA1 (?_ : va_Run p l e R s m args below meth c H locs k n mc1 ms1 (F0 m pc ls (st.map (am_rv q))) (rest.map (am_rv q)) (am_Q D ty q h r h1 H.size (List.map (am_rv q) (.ref o :: as)).toArray) (va_A (am_rz q ty h) H.size))
              rcases hw with ⟨-, hw⟩ | ⟨-, host, hw⟩
              · exact va_runV (As := as.map (am_rv q)) ⟨C.1, C.2.1, C.2.2.1, C.2.2.2.2.1, C.2.2.2.2.2.2.2.1⟩ hM ⟨callB_of (am_na a) C.2.2.2.2.2.2.2.1 (am_goodin hz) rfl rfl rfl (C.2.2.2.2.2.2.2.1 _ (am_mg hz.2.2.2.2.2.1 rfl)) (C.2.2.2.2.2.2.2.1 _ (am_mg hw rfl)) hz.2.2.2.2.2.2.1 ⟨C.2.2.2.1.2.2.1, Nat.le_trans (by show 8 + (am_ml a + 11) + 60 * (d + 3) ≤ 60 * (d + 4); have := hz.2.2.2.2.2.2.2.1; omega) C.2.2.2.1.2.2.2⟩, C.2.2.2.2.2.2.2.1 _ (am_mg hkw rfl), by rw [← hcl]; exact C.2.2.2.2.2.2.2.1 _ (am_mg (hz.2.2.1 hkd) rfl)⟩ ⟨hpre.1, va_recv C.2.2.2.2.2.2.2.2.1 g3 (am_cl_get h8) (am_rz_get hx), hpre.2⟩ rfl (by rw [List.length_map]; exact ex3) g6.1 hst (lv_room (by rw [am_catm]; exact Nat.ble_eq.mp hcat)) hd ⟨Nat.le_trans hk9 C.2.2.2.1.1, Nat.le_trans hm9 C.2.2.2.1.2.1⟩
              · exact va_runVN (As := as.map (am_rv q)) ⟨C.1, C.2.1, C.2.2.1, C.2.2.2.2.1, C.2.2.2.2.2.2.2.1⟩ hM ⟨va_cnB (am_na a) C.2.2.2.2.2.2.2.1 (am_goodin hz) rfl rfl rfl (C.2.2.2.2.2.2.2.2.2.2.1.2.1.1 _ hw rfl) (C.2.2.2.2.2.2.2.1 _ (am_mg hz.2.2.2.2.2.1 rfl)) hz.2.2.2.2.2.2.1 ⟨C.2.2.2.1.2.2.1, Nat.le_trans (by show 8 + (am_ml a + 11) + 60 * (d + 3) ≤ 60 * (d + 4); have := hz.2.2.2.2.2.2.2.1; omega) C.2.2.2.1.2.2.2⟩, C.2.2.2.2.2.2.2.1 _ (am_mg hkw rfl), by rw [← hcl]; exact C.2.2.2.2.2.2.2.1 _ (am_mg (hz.2.2.1 hkd) rfl)⟩ ⟨hpre.1, va_recv C.2.2.2.2.2.2.2.2.1 g3 (am_cl_get h8) (am_rz_get hx), hpre.2⟩ rfl (by rw [List.length_map]; exact ex3) g6.1 hst (lv_room (by rw [am_catm]; exact Nat.ble_eq.mp hcat)) hd ⟨Nat.le_trans hk9 C.2.2.2.1.1, Nat.le_trans hm9 C.2.2.2.1.2.1⟩
            · exact hs.elim
          · exact hs.elim
        · exact hs.elim
    | false =>
      rw [hkd1] at hs
      dsimp only at hs
      unfold am_obj at hs
      split at hs
      · rename_i x hx
        obtain ⟨ci, fs⟩ := x
        try unfold am_b at hs
        split at hs
        · rename_i hb
          simp only [Bool.and_eq_true, Bool.or_eq_true] at hb
          have hci := Nat.eq_of_beq_eq_true hb.1
          try dsimp only at hci
          subst hci
          rcases hb.2 with hb | hb
          · have hkd := Nat.eq_of_beq_eq_true hb.1
            have hb0 := Nat.eq_of_beq_eq_true hb.2
            have hw : Jvm.Cond.methodLink (am_nm y).cls idx (am_nm a) ∈ wt_tbl := by
              rcases hw3 with e | e | e
              · omega
              · exact e.2
              · omega
            obtain ⟨hc3, hs3, hl3⟩ := hz.2.2.2.2.2.2.2.2.2.1 hkd
            unfold am_call am_b at hs
            split at hs
            · rename_i hcat
              simp only [Bool.and_eq_true] at hcat
              have hh := Nat.ble_eq.mp hcat.2
              replace hcat := hcat.1
              obtain ⟨r, h1, mc1, ms1, he, hle, hk9, hm9, hr, hp⟩ := hs
              obtain ⟨xs, ex1, ex2, ex3⟩ := am_take_ok _ _ _ _ _ ht
              rw [List.append_nil] at ex1
              subst ex1
              intro q H locs ls g1 g2 g3 g4 g5 g6 g7 g8
              obtain ⟨hpre, hA1⟩ := am_start (as := (.ref o :: as)) C hh g1 g3 g4 g5
              have hM := hE a (.ref o :: as) h r h1 mc1 ms1 hlt he q H.size hle
              have hkw : (match am_kd a with | 0 => Jvm.Cond.static (am_nm a) | _ => Jvm.Cond.instanceMethod (am_nm a)) ∈ wt_tbl := hz.2.1
              rw [hkd] at hkw
              have hst : st.map (am_rv q) = (as.map (am_rv q)).reverse ++ .ref (q o) :: rest.map (am_rv q) := by
                rw [ex2, List.map_append, List.map_reverse]
                rfl
              refine am_after (z := a) (as := (.ref o :: as)) C hP hle hk9 hm9 hr hp g1 g2 g5 g6 hA1 (?_ : va_Run p l e R s m args below meth c H locs k n mc1 ms1 (F0 m pc ls (st.map (am_rv q))) (rest.map (am_rv q)) (am_Q D ty q h r h1 H.size (List.map (am_rv q) (.ref o :: as)).toArray) (va_A (am_rz q ty h) H.size))
              have hgi : GoodIn am_tblg (va_wsU (am_nm y).cls idx "java/lang/StringBuilder" (am_nm a).cls (am_nm a) (am_nm a) (am_ws a)) := by
                intro w9 hw9
                unfold va_wsU at hw9
                rcases List.mem_append.mp hw9 with h9 | h9
                · simp only [List.mem_cons, List.not_mem_nil, or_false] at h9
                  rcases h9 with rfl | rfl | rfl | rfl | rfl
                  · exact ⟨am_mg hw rfl, good_of_word rfl⟩
                  · exact ⟨am_mg hs3 rfl, good_of_word rfl⟩
                  · exact ⟨am_mg hl3 rfl, good_of_word rfl⟩
                  · exact ⟨am_mg hkw rfl, good_of_word rfl⟩
                  · exact ⟨am_mg hz.2.2.2.2.2.1 rfl, good_of_word rfl⟩
                · exact (am_goodin hz) _ h9
              exact va_runU (C := "java/lang/StringBuilder") (As := as.map (am_rv q)) ⟨C.1, C.2.1, C.2.2.1, C.2.2.2.2.1, C.2.2.2.2.2.2.2.1⟩ hM (va_cwU (am_na a) C.2.2.2.2.2.2.2.1 hgi rfl rfl rfl rfl hz.2.2.2.2.2.2.1 ⟨C.2.2.2.1.2.2.1, Nat.le_trans (by show 8 + (am_ml a + 11) + 60 * (d + 3) ≤ 60 * (d + 4); have := hz.2.2.2.2.2.2.2.1; omega) C.2.2.2.1.2.2.2⟩) ⟨hpre.1, va_recv C.2.2.2.2.2.2.2.2.1 g3 (am_cl_get (ci := 7) (by decide)) (am_rz_get hx), hpre.2⟩ rfl (by rw [List.length_map]; exact ex3) g6.1 hst (lv_room (by rw [am_catm]; exact Nat.ble_eq.mp hcat)) hd ⟨Nat.le_trans hk9 C.2.2.2.1.1, Nat.le_trans hm9 C.2.2.2.1.2.1⟩
            · exact hs.elim
          · have hkd := Nat.eq_of_beq_eq_true hb.1
            have hb0 := Nat.eq_of_beq_eq_true hb.2
            obtain ⟨hna, hw⟩ : am_nm a = ⟨"java/lang/StringBuilder", "length", "()I"⟩ ∧ Jvm.Cond.methodLink (am_nm y).cls idx ⟨"java/lang/AbstractStringBuilder", "length", "()I"⟩ ∈ wt_tbl := by
              rcases hw3 with e | e | e
              · exact e.2
              · omega
              · omega
            unfold am_call am_b at hs
            split at hs
            · rename_i hcat
              simp only [Bool.and_eq_true] at hcat
              have hh := Nat.ble_eq.mp hcat.2
              replace hcat := hcat.1
              obtain ⟨r, h1, mc1, ms1, he, hle, hk9, hm9, hr, hp⟩ := hs
              obtain ⟨xs, ex1, ex2, ex3⟩ := am_take_ok _ _ _ _ _ ht
              rw [List.append_nil] at ex1
              subst ex1
              intro q H locs ls g1 g2 g3 g4 g5 g6 g7 g8
              obtain ⟨hpre, hA1⟩ := am_start (as := (.ref o :: as)) C hh g1 g3 g4 g5
              have hM := hE a (.ref o :: as) h r h1 mc1 ms1 hlt he q H.size hle
              have hkw : (match am_kd a with | 0 => Jvm.Cond.static (am_nm a) | _ => Jvm.Cond.instanceMethod (am_nm a)) ∈ wt_tbl := hz.2.1
              rw [hkd] at hkw
              have hst : st.map (am_rv q) = (as.map (am_rv q)).reverse ++ .ref (q o) :: rest.map (am_rv q) := by
                rw [ex2, List.map_append, List.map_reverse]
                rfl
              refine am_after (z := a) (as := (.ref o :: as)) C hP hle hk9 hm9 hr hp g1 g2 g5 g6 hA1 (?_ : va_Run p l e R s m args below meth c H locs k n mc1 ms1 (F0 m pc ls (st.map (am_rv q))) (rest.map (am_rv q)) (am_Q D ty q h r h1 H.size (List.map (am_rv q) (.ref o :: as)).toArray) (va_A (am_rz q ty h) H.size))
              have hgi : GoodIn am_tblg (va_wsO (am_nm y).cls idx "java/lang/StringBuilder" "java/lang/AbstractStringBuilder" ⟨"java/lang/AbstractStringBuilder", "length", "()I"⟩ (am_nm a) (am_ws a)) := by
                intro w9 hw9
                unfold va_wsO at hw9
                rcases List.mem_append.mp hw9 with h9 | h9
                · simp only [List.mem_cons, List.not_mem_nil, or_false] at h9
                  rcases h9 with rfl | rfl | rfl | rfl | rfl | rfl
                  · exact ⟨am_mg hw rfl, good_of_word rfl⟩
                  · exact ⟨am_mg am_v_same rfl, good_of_word rfl⟩
                  · exact ⟨am_mg (am_mok_all (y := 73) (by decide)).2.1 rfl, good_of_word rfl⟩
                  · exact ⟨am_mg (by rw [hna]; exact am_v_sel) rfl, good_of_word rfl⟩
                  · exact ⟨am_mg hkw rfl, good_of_word rfl⟩
                  · exact ⟨am_mg hz.2.2.2.2.2.1 rfl, good_of_word rfl⟩
                · exact (am_goodin hz) _ h9
              exact va_runU (C := "java/lang/StringBuilder") (As := as.map (am_rv q)) ⟨C.1, C.2.1, C.2.2.1, C.2.2.2.2.1, C.2.2.2.2.2.2.2.1⟩ hM (va_cwO (am_na a) C.2.2.2.2.2.2.2.1 hgi rfl rfl rfl (am_mg (am_mok_all (y := 73) (by decide)).1 rfl) ⟨by decide +kernel, by decide +kernel, by have h9 := hz.2.2.2.2.2.2.1.2.2; rw [hna] at h9; exact h9⟩ ⟨C.2.2.2.1.2.2.1, Nat.le_trans (by show 8 + (am_ml a + 11) + 60 * (d + 3) ≤ 60 * (d + 4); have := hz.2.2.2.2.2.2.2.1; omega) C.2.2.2.1.2.2.2⟩) ⟨hpre.1, va_recv C.2.2.2.2.2.2.2.2.1 g3 (am_cl_get (ci := 7) (by decide)) (am_rz_get hx), hpre.2⟩ rfl (by rw [List.length_map]; exact ex3) g6.1 hst (lv_room (by rw [am_catm]; exact Nat.ble_eq.mp hcat)) hd ⟨Nat.le_trans hk9 C.2.2.2.1.1, Nat.le_trans hm9 C.2.2.2.1.2.1⟩
            · exact hs.elim
        · exact hs.elim
      · exact hs.elim
  · exact hs.elim
theorem am_o_invokespecial (C : am_Cx p l e R s m args below meth c sc y d mc ms Φ D ty A q0 h0 Qf) (hP : ∀ x : am_S, P x → am_Wt p l e R s m args below meth c y mc ms D ty A q0 h0 Qf x) {idx : Nat} (hE : ∀ (z : Nat) (as : List Value) (h : am_H) (r : Option Value) (h1 : am_H) (mc1 ms1 : Nat), z < 129 → E z as h r h1 mc1 ms1 → am_MetD sc l d D ty z as h r h1 mc1 ms1) {len : Nat} (hd : decode (am_code y) pc = .ok (.invokespecial idx, len)) (hn : len = 3) (ha : Nat.ble 9000 a = false) (hlt : a < 129) (hz : am_mok a) (hw : (b = 0 ∧ Jvm.Cond.methodLink (am_nm y).cls idx (am_nm a) ∈ wt_tbl) ∨ (b = 1 ∧ ∃ host, Jvm.Cond.methodLinkNest (am_nm y).cls idx (am_nm a) host ∈ wt_tbl)) (hs : am_ex E sc y mc ms Φ P (.invokespecial idx) a b kf kt tg pc lv st h k n) : am_Wt p l e R s m args below meth c y mc ms D ty A q0 h0 Qf (pc, lv, st, h, k, n) := by
  subst hn
  unfold am_ex at hs
  dsimp only at hs
  rw [ha] at hs
  dsimp only at hs
  split at hs
  · rename_i as o rest ht
    cases hkd1 : Nat.beq (am_kd a) 2 with
    | true =>
      rw [hkd1] at hs
      dsimp only at hs
      have hkd := Nat.eq_of_beq_eq_true hkd1
      unfold am_call am_b at hs
      split at hs
      · rename_i hcat
        simp only [Bool.and_eq_true] at hcat
        have hh := Nat.ble_eq.mp hcat.2
        replace hcat := hcat.1
        obtain ⟨r, h1, mc1, ms1, he, hle, hk9, hm9, hr, hp⟩ := hs
        obtain ⟨xs, ex1, ex2, ex3⟩ := am_take_ok _ _ _ _ _ ht
        rw [List.append_nil] at ex1
        subst ex1
        intro q H locs ls g1 g2 g3 g4 g5 g6 g7 g8
        obtain ⟨hpre, hA1⟩ := am_start (as := (.ref o :: as)) C hh g1 g3 g4 g5
        have hM := hE a (.ref o :: as) h r h1 mc1 ms1 hlt he q H.size hle
        have hkw : (match am_kd a with | 0 => Jvm.Cond.static (am_nm a) | _ => Jvm.Cond.instanceMethod (am_nm a)) ∈ wt_tbl := hz.2.1
        rw [hkd] at hkw
        have hst : st.map (am_rv q) = (as.map (am_rv q)).reverse ++ .ref (q o) :: rest.map (am_rv q) := by
          rw [ex2, List.map_append, List.map_reverse]
          rfl
        refine am_after (z := a) (as := (.ref o :: as)) C hP hle hk9 hm9 hr hp g1 g2 g5 g6 hA1 (?_ : va_Run p l e R s m args below meth c H locs k n mc1 ms1 (F0 m pc ls (st.map (am_rv q))) (rest.map (am_rv q)) (am_Q D ty q h r h1 H.size (List.map (am_rv q) (.ref o :: as)).toArray) (va_A (am_rz q ty h) H.size))
        rcases hw with ⟨-, hw⟩ | ⟨-, host, hw⟩
        · exact va_runI (As := as.map (am_rv q)) ⟨C.1, C.2.1, C.2.2.1, C.2.2.2.2.1, C.2.2.2.2.2.2.2.1⟩ hM ⟨by have cb : CallB (R) s args (am_nm y).cls idx (am_nm a) (am_code a) (am_ml a) (am_ret a) (am_ws a) (am_rm d mc1 ms1) mc1 ms1 (am_na a) := callB_of (am_na a) C.2.2.2.2.2.2.2.1 (am_goodin hz) rfl rfl rfl (C.2.2.2.2.2.2.2.1 _ (am_mg hz.2.2.2.2.2.1 rfl)) (C.2.2.2.2.2.2.2.1 _ (am_mg hw rfl)) hz.2.2.2.2.2.2.1 ⟨C.2.2.2.1.2.2.1, Nat.le_trans (by show 8 + (am_ml a + 11) + 60 * (d + 3) ≤ 60 * (d + 4); have := hz.2.2.2.2.2.2.2.1; omega) C.2.2.2.1.2.2.2⟩; rw [(hz.2.2.2.2.1 hkd).2] at cb; exact cb, (hz.2.2.2.2.1 hkd).1, C.2.2.2.2.2.2.2.1 _ (am_mg hkw rfl)⟩ hpre rfl (by rw [List.length_map]; exact ex3) g6.1 hst (lv_room (by rw [am_catm]; exact Nat.ble_eq.mp hcat)) hd ⟨Nat.le_trans hk9 C.2.2.2.1.1, Nat.le_trans hm9 C.2.2.2.1.2.1⟩
        · exact va_runIN (As := as.map (am_rv q)) ⟨C.1, C.2.1, C.2.2.1, C.2.2.2.2.1, C.2.2.2.2.2.2.2.1⟩ hM ⟨by have cb : va_CN (R) s args (am_nm y).cls idx (am_nm a) host (am_code a) (am_ml a) (am_ret a) (am_ws a) (am_rm d mc1 ms1) mc1 ms1 (am_na a) := va_cnB (am_na a) C.2.2.2.2.2.2.2.1 (am_goodin hz) rfl rfl rfl (C.2.2.2.2.2.2.2.2.2.2.1.2.1.1 _ hw rfl) (C.2.2.2.2.2.2.2.1 _ (am_mg hz.2.2.2.2.2.1 rfl)) hz.2.2.2.2.2.2.1 ⟨C.2.2.2.1.2.2.1, Nat.le_trans (by show 8 + (am_ml a + 11) + 60 * (d + 3) ≤ 60 * (d + 4); have := hz.2.2.2.2.2.2.2.1; omega) C.2.2.2.1.2.2.2⟩; rw [(hz.2.2.2.2.1 hkd).2] at cb; exact cb, (hz.2.2.2.2.1 hkd).1, C.2.2.2.2.2.2.2.1 _ (am_mg hkw rfl)⟩ hpre rfl (by rw [List.length_map]; exact ex3) g6.1 hst (lv_room (by rw [am_catm]; exact Nat.ble_eq.mp hcat)) hd ⟨Nat.le_trans hk9 C.2.2.2.1.1, Nat.le_trans hm9 C.2.2.2.1.2.1⟩
      · exact hs.elim
    | false =>
      rw [hkd1] at hs
      dsimp only at hs
      unfold am_obj at hs
      split at hs
      · rename_i x hx
        obtain ⟨ci, fs⟩ := x
        try unfold am_b at hs
        split at hs
        · rename_i hb
          simp only [Bool.and_eq_true, decide_eq_true_eq] at hb
          have hci := Nat.eq_of_beq_eq_true hb.1
          try dsimp only at hci
          subst hci
          have hkd := Nat.eq_of_beq_eq_true hb.2.1
          have hb0 := Nat.eq_of_beq_eq_true hb.2.2.1
          have hyc := hb.2.2.2
          have hw1 : Jvm.Cond.methodLink (am_nm y).cls idx (am_nm a) ∈ wt_tbl := by
            rcases hw with e | e
            · exact e.2
            · omega
          obtain ⟨hc4, hn4, hs4⟩ := hz.2.2.2.2.2.2.2.2.2.2 hkd
          unfold am_call am_b at hs
          split at hs
          · rename_i hcat
            simp only [Bool.and_eq_true] at hcat
            have hh := Nat.ble_eq.mp hcat.2
            replace hcat := hcat.1
            obtain ⟨r, h1, mc1, ms1, he, hle, hk9, hm9, hr, hp⟩ := hs
            obtain ⟨xs, ex1, ex2, ex3⟩ := am_take_ok _ _ _ _ _ ht
            rw [List.append_nil] at ex1
            subst ex1
            intro q H locs ls g1 g2 g3 g4 g5 g6 g7 g8
            obtain ⟨hpre, hA1⟩ := am_start (as := (.ref o :: as)) C hh g1 g3 g4 g5
            have hM := hE a (.ref o :: as) h r h1 mc1 ms1 hlt he q H.size hle
            have hkw : (match am_kd a with | 0 => Jvm.Cond.static (am_nm a) | _ => Jvm.Cond.instanceMethod (am_nm a)) ∈ wt_tbl := hz.2.1
            rw [hkd] at hkw
            have hst : st.map (am_rv q) = (as.map (am_rv q)).reverse ++ .ref (q o) :: rest.map (am_rv q) := by
              rw [ex2, List.map_append, List.map_reverse]
              rfl
            refine am_after (z := a) (as := (.ref o :: as)) C hP hle hk9 hm9 hr hp g1 g2 g5 g6 hA1 (?_ : va_Run p l e R s m args below meth c H locs k n mc1 ms1 (F0 m pc ls (st.map (am_rv q))) (rest.map (am_rv q)) (am_Q D ty q h r h1 H.size (List.map (am_rv q) (.ref o :: as)).toArray) (va_A (am_rz q ty h) H.size))
            have hgi : GoodIn am_tblg (va_wsSU (am_nm y).cls idx (am_nm a) (am_ws a)) := by
              intro w9 hw9
              unfold va_wsSU at hw9
              rcases List.mem_append.mp hw9 with h9 | h9
              · simp only [List.mem_cons, List.not_mem_nil, or_false] at h9
                rcases h9 with rfl | rfl | rfl | rfl | rfl
                · exact ⟨am_mg hw1 rfl, good_of_word rfl⟩
                · exact ⟨am_mg hs4 rfl, good_of_word rfl⟩
                · exact ⟨am_mg (by rw [hyc, hc4]; exact am_v_sup) rfl, good_of_word rfl⟩
                · exact ⟨am_mg hkw rfl, good_of_word rfl⟩
                · exact ⟨am_mg hz.2.2.2.2.2.1 rfl, good_of_word rfl⟩
              · exact (am_goodin hz) _ h9
            exact va_runSU (C := "java/lang/StringBuilder") (As := as.map (am_rv q)) (C.2.2.2.2.2.2.2.2.1.1 7 _ rfl).2 ⟨C.1, C.2.1, C.2.2.1, C.2.2.2.2.1, C.2.2.2.2.2.2.2.1⟩ hM (va_cwSU (am_na a) C.2.2.2.2.2.2.2.1 hgi rfl rfl rfl ⟨hn4, hz.2.2.2.2.2.2.1.2.2⟩ ⟨C.2.2.2.1.2.2.1, Nat.le_trans (by show 8 + (am_ml a + 11) + 60 * (d + 3) ≤ 60 * (d + 4); have := hz.2.2.2.2.2.2.2.1; omega) C.2.2.2.1.2.2.2⟩) ⟨hpre.1, va_recv C.2.2.2.2.2.2.2.2.1 g3 (am_cl_get (ci := 7) (by decide)) (am_rz_get hx), hpre.2⟩ rfl (by rw [List.length_map]; exact ex3) g6.1 hst (lv_room (by rw [am_catm]; exact Nat.ble_eq.mp hcat)) hd ⟨Nat.le_trans hk9 C.2.2.2.1.1, Nat.le_trans hm9 C.2.2.2.1.2.1⟩
          · exact hs.elim
        · exact hs.elim
      · exact hs.elim
  · exact hs.elim
end OPS
end
section
/-! ===== the rest: Math.max, Math.min, System.arraycopy, Object.<init>, aastore, new int[n][m] ===== -/
theorem am_w_maxS : Jvm.Cond.static Lib.Math.max.name ∈ wt_tbl := List.mem_of_getElem? (i := 252) (by decide +kernel)
theorem am_w_maxC : Jvm.Cond.code Lib.Math.max.name Lib.Math.max.code 2 (some .int) ∈ wt_tbl := List.mem_of_getElem? (i := 253) (by decide +kernel)
theorem am_w_minS : Jvm.Cond.static Lib.Math.min.name ∈ wt_tbl := List.mem_of_getElem? (i := 255) (by decide +kernel)
theorem am_w_minC : Jvm.Cond.code Lib.Math.min.name Lib.Math.min.code 2 (some .int) ∈ wt_tbl := List.mem_of_getElem? (i := 256) (by decide +kernel)
theorem am_w_mathI : Jvm.Cond.initialized "java/lang/Math" ∈ wt_tbl := List.mem_of_getElem? (i := 28) (by decide +kernel)
theorem am_w_acN : Jvm.Cond.native arraycopyName ∈ wt_tbl := List.mem_of_getElem? (i := 733) (by decide +kernel)
theorem am_w_acS : Jvm.Cond.static arraycopyName ∈ wt_tbl := List.mem_of_getElem? (i := 732) (by decide +kernel)
theorem am_w_sysI : Jvm.Cond.initialized "java/lang/System" ∈ wt_tbl := List.mem_of_getElem? (i := 39) (by decide +kernel)
theorem am_w_oiI : Jvm.Cond.instanceMethod objectInit ∈ wt_tbl := List.mem_of_getElem? (i := 47) (by decide +kernel)
theorem am_w_oiC : Jvm.Cond.code objectInit ⟨#[0xb1]⟩ 1 none ∈ wt_tbl := List.mem_of_getElem? (i := 48) (by decide +kernel)
theorem am_acw : nativeFrameWords "java/lang/System" "arraycopy" 5 ≤ 30 := by decide +kernel
section OPS
variable {p : Program} {l : Launch} {e : Env} {R : Room} {s : State} {m : MethodId} {args : Array Value} {below : List Frame} {meth : Method} {c : Code} {sc : Option (Nat × (Nat → Int32))} {y d mc ms : Nat} {Φ : Option Value → am_H → Prop} {D : va_G} {ty : Nat → ClassId} {A : Nat → Prop} {q0 : Nat → Nat} {h0 : am_H} {Qf : State → Prop}
variable {E : am_E} {P : am_S → Prop} {pc a b k n : Nat} {kf kt : Option (List Nat)} {tg : List (Nat × List Nat)} {lv : am_L} {st : List Value} {h : am_H}
theorem am_o_prim_max (C : am_Cx p l e R s m args below meth c sc y d mc ms Φ D ty A q0 h0 Qf) (hP : ∀ x : am_S, P x → am_Wt p l e R s m args below meth c y mc ms D ty A q0 h0 Qf x) {idx : Nat} {len : Nat} (hd : decode (am_code y) pc = .ok (.invokestatic idx, len)) (hn : len = 3) (ha : a = 9001) (hw : Jvm.Cond.methodLink (am_nm y).cls idx Lib.Math.max.name ∈ wt_tbl) (hs : am_ex E sc y mc ms Φ P (.invokestatic idx) a b kf kt tg pc lv st h k n) : am_Wt p l e R s m args below meth c y mc ms D ty A q0 h0 Qf (pc, lv, st, h, k, n) := by
  subst hn
  subst ha
  replace hs : am_i2 st _ := hs
  unfold am_i2 at hs
  split at hs
  · unfold am_b at hs
    split at hs
    · rename_i hcat
      intro q H locs ls g1 g2 g3 g4 g5 g6 g7 g8
      refine va_mmax C.1 C.2.1 (C.2.2.1.trans g6.1.symm) C.2.2.2.2.1 (C.2.2.2.2.2.2.2.1 _ (am_mg hw rfl)) (C.2.2.2.2.2.2.2.1 _ (am_mg am_w_maxS rfl)) (C.2.2.2.2.2.2.2.1 _ (am_mg am_w_mathI rfl)) (C.2.2.2.2.2.2.2.1 _ (am_mg am_w_maxC rfl)) (Nat.le_trans (by omega) C.2.2.2.1.2.2.1) ?_ (Nat.le_trans g7 C.2.2.2.1.1) (Nat.le_trans g8 C.2.2.2.1.2.1) hd (hP _ (hs) q H locs ls g1 g2 g3 g4 g5 (am_has_pick _ g6) g7 g8)
      rw [am_catm]
      have := Nat.ble_eq.mp hcat
      refine Nat.le_trans ?_ C.2.2.2.1.2.2.2
      omega
    · exact hs.elim
  · exact hs.elim
theorem am_o_prim_min (C : am_Cx p l e R s m args below meth c sc y d mc ms Φ D ty A q0 h0 Qf) (hP : ∀ x : am_S, P x → am_Wt p l e R s m args below meth c y mc ms D ty A q0 h0 Qf x) {idx : Nat} {len : Nat} (hd : decode (am_code y) pc = .ok (.invokestatic idx, len)) (hn : len = 3) (ha : a = 9002) (hw : Jvm.Cond.methodLink (am_nm y).cls idx Lib.Math.min.name ∈ wt_tbl) (hs : am_ex E sc y mc ms Φ P (.invokestatic idx) a b kf kt tg pc lv st h k n) : am_Wt p l e R s m args below meth c y mc ms D ty A q0 h0 Qf (pc, lv, st, h, k, n) := by
  subst hn
  subst ha
  replace hs : am_i2 st _ := hs
  unfold am_i2 at hs
  split at hs
  · unfold am_b at hs
    split at hs
    · rename_i hcat
      intro q H locs ls g1 g2 g3 g4 g5 g6 g7 g8
      refine va_mmin C.1 C.2.1 (C.2.2.1.trans g6.1.symm) C.2.2.2.2.1 (C.2.2.2.2.2.2.2.1 _ (am_mg hw rfl)) (C.2.2.2.2.2.2.2.1 _ (am_mg am_w_minS rfl)) (C.2.2.2.2.2.2.2.1 _ (am_mg am_w_mathI rfl)) (C.2.2.2.2.2.2.2.1 _ (am_mg am_w_minC rfl)) (Nat.le_trans (by omega) C.2.2.2.1.2.2.1) ?_ (Nat.le_trans g7 C.2.2.2.1.1) (Nat.le_trans g8 C.2.2.2.1.2.1) hd (hP _ (hs) q H locs ls g1 g2 g3 g4 g5 (am_has_pick _ g6) g7 g8)
      rw [am_catm]
      have := Nat.ble_eq.mp hcat
      refine Nat.le_trans ?_ C.2.2.2.1.2.2.2
      omega
    · exact hs.elim
  · exact hs.elim
theorem am_bfit0 : ∀ l ∈ am_byt, ∀ x ∈ l, fits .byte (.int x) = true := by decide +kernel
theorem am_bfit (i j : Nat) : fits .byte (.int ((am_byt.getD i []).getD j 0)) = true := by
  rw [List.getD_eq_getElem?_getD (l := am_byt.getD i [])]
  cases h : (am_byt.getD i [])[j]? with
  | none => rfl
  | some x =>
    refine am_bfit0 _ ?_ x (List.mem_of_getElem? h)
    rw [List.getD_eq_getElem?_getD]
    cases h2 : am_byt[i]? with
    | none =>
      rw [List.getD_eq_getElem?_getD, h2] at h
      cases h
    | some l => exact List.mem_of_getElem? h2
theorem am_o_prim_copy (C : am_Cx p l e R s m args below meth c sc y d mc ms Φ D ty A q0 h0 Qf) (hP : ∀ x : am_S, P x → am_Wt p l e R s m args below meth c y mc ms D ty A q0 h0 Qf x) {idx : Nat} {len : Nat} (hd : decode (am_code y) pc = .ok (.invokestatic idx, len)) (hn : len = 3) (ha : a = 9003) (hw : Jvm.Cond.methodLink (am_nm y).cls idx arraycopyName ∈ wt_tbl) (hs : am_ex E sc y mc ms Φ P (.invokestatic idx) a b kf kt tg pc lv st h k n) : am_Wt p l e R s m args below meth c y mc ms D ty A q0 h0 Qf (pc, lv, st, h, k, n) := by
  subst hn
  subst ha
  replace hs : am_i1 st _ := hs
  match st, hs with
  | .int w9 :: .int dp :: .ref o :: .int sp :: .ref o0 :: r, hs =>
    dsimp only [am_i1, am_r1] at hs
    split at hs
    · unfold am_b at hs
      split at hs
      · rename_i hb3
        simp only [Bool.and_eq_true] at hb3
        have h1 := Nat.ble_eq.mp hb3.1
        have h2 := Nat.ble_eq.mp hb3.2.1
        have hh9 : h.length ≤ am_pX := Nat.ble_eq.mp hb3.2.2
        obtain ⟨i9, hi9, rfl⟩ : ∃ i9, i9 < 7 ∧ o0 = am_pV + i9 := am_sp h1 h2
        simp only [Nat.add_sub_cancel_left] at hs
        unfold am_arr at hs
        split at hs
        · rename_i x1 hx1
          obtain ⟨t1, n1, z1⟩ := x1
          dsimp only at hs
          try unfold am_b at hs
          split at hs
          · rename_i hb
            simp only [Bool.and_eq_true] at hb
            have e1 := Nat.eq_of_beq_eq_true hb.1
            subst e1
            unfold am_ai at hs
            split at hs
            · rename_i g hg
              dsimp only at hg
              subst hg
              intro q H locs ls g1 g2 g3 g4 g5 g6 g7 g8
              have hq9 := am_X_ag g1 hh9 C.2.2.2.2.2.2.2.2.2.2.1
              refine vk_copyt (f := fun j => (am_byt.getD i9 []).getD j 0) C.1 C.2.1 (C.2.2.1.trans g6.1.symm) C.2.2.2.2.1 (C.2.2.2.2.2.2.2.1 _ (am_mg hw rfl)) (C.2.2.2.2.2.2.2.1 _ (am_mg am_w_acN rfl)) (C.2.2.2.2.2.2.2.1 _ (am_mg am_w_acS rfl)) (C.2.2.2.2.2.2.2.1 _ (am_mg am_w_sysI rfl)) C.2.2.2.2.2.2.2.2.1 g3 g4 g5 (hq9.1.2.1.1 i9 hi9).2.2.2 o 4 (am_rz_get hx1) rfl hs.1 hs.2.1 hs.2.2.1 hs.2.2.2.1 hs.2.2.2.2.1 (fun i _ => am_bfit i9 _) (Nat.le_trans (by omega) C.2.2.2.1.2.2.1) ?_ hd (fun H1 locs1 P1 D1 S1 => ?_)
              · have h9 := Nat.ble_eq.mp hb.2
                have h8 := am_acw
                rw [am_catm]
                refine Nat.le_trans ?_ C.2.2.2.1.2.2.2
                omega
              · rw [show (Sum.inl (ty 4, n1, .inl (va_cpy (fun j => (am_byt.getD i9 []).getD j 0) g sp.toNatClampNeg dp.toNatClampNeg w9.toNatClampNeg)) : va_E) = am_rc q ty (.inl (4, n1, .inl (va_cpy (fun j => (am_byt.getD i9 []).getD j 0) g sp.toNatClampNeg dp.toNatClampNeg w9.toNatClampNeg))) from rfl, am_rz_set] at P1 D1
                exact hP _ hs.2.2.2.2.2 q H1 locs1 ls (by rw [List.length_set]; exact g1) (by rw [List.length_set]; exact g2) P1 D1 S1 (am_has_pick _ g6) g7 g8
            · exact hs.elim
          · exact hs.elim
        · exact hs.elim
      · exact hs.elim
    · unfold am_arr at hs
      split at hs
      · rename_i x0 hx0
        obtain ⟨t0, n0, z0⟩ := x0
        dsimp only at hs
        split at hs
        · rename_i x1 hx1
          obtain ⟨t1, n1, z1⟩ := x1
          dsimp only at hs
          unfold am_b at hs
          split at hs
          · rename_i hb
            simp only [Bool.and_eq_true, Bool.or_eq_true] at hb
            have e1 := Nat.eq_of_beq_eq_true hb.2.1
            subst e1
            unfold am_ai at hs
            split at hs
            · rename_i f hf
              split at hs
              · rename_i g hg
                dsimp only at hf hg
                subst hf
                subst hg
                intro q H locs ls g1 g2 g3 g4 g5 g6 g7 g8
                rcases hb.1 with e0 | e0
                · have e0 := Nat.eq_of_beq_eq_true e0
                  try dsimp only at e0
                  subst e0
                  refine va_copyi (ty := .int) C.1 C.2.1 (C.2.2.1.trans g6.1.symm) C.2.2.2.2.1 (C.2.2.2.2.2.2.2.1 _ (am_mg hw rfl)) (C.2.2.2.2.2.2.2.1 _ (am_mg am_w_acN rfl)) (C.2.2.2.2.2.2.2.1 _ (am_mg am_w_acS rfl)) (C.2.2.2.2.2.2.2.1 _ (am_mg am_w_sysI rfl)) C.2.2.2.2.2.2.2.2.1 g3 g4 g5 o0 o 0 0 (am_rz_get hx0) (am_rz_get hx1) rfl rfl rfl hs.1 hs.2.1 hs.2.2.1 hs.2.2.2.1 hs.2.2.2.2.1 (fun _ _ => rfl) (Nat.le_trans (by omega) C.2.2.2.1.2.2.1) ?_ hd (fun H1 locs1 P1 D1 S1 => ?_)
                  · have h9 := Nat.ble_eq.mp hb.2.2
                    have h8 := am_acw
                    rw [am_catm]
                    refine Nat.le_trans ?_ C.2.2.2.1.2.2.2
                    omega
                  · rw [show (Sum.inl (ty 0, n1, .inl (va_cpy f g sp.toNatClampNeg dp.toNatClampNeg w9.toNatClampNeg)) : va_E) = am_rc q ty (.inl (0, n1, .inl (va_cpy f g sp.toNatClampNeg dp.toNatClampNeg w9.toNatClampNeg))) from rfl, am_rz_set] at P1 D1
                    exact hP _ hs.2.2.2.2.2.2 q H1 locs1 ls (by rw [List.length_set]; exact g1) (by rw [List.length_set]; exact g2) P1 D1 S1 (am_has_pick _ g6) g7 g8
                · have e0 := Nat.eq_of_beq_eq_true e0
                  try dsimp only at e0
                  subst e0
                  refine va_copyi (ty := .byte) C.1 C.2.1 (C.2.2.1.trans g6.1.symm) C.2.2.2.2.1 (C.2.2.2.2.2.2.2.1 _ (am_mg hw rfl)) (C.2.2.2.2.2.2.2.1 _ (am_mg am_w_acN rfl)) (C.2.2.2.2.2.2.2.1 _ (am_mg am_w_acS rfl)) (C.2.2.2.2.2.2.2.1 _ (am_mg am_w_sysI rfl)) C.2.2.2.2.2.2.2.2.1 g3 g4 g5 o0 o 4 4 (am_rz_get hx0) (am_rz_get hx1) rfl rfl rfl hs.1 hs.2.1 hs.2.2.1 hs.2.2.2.1 hs.2.2.2.2.1 (hs.2.2.2.2.2.1 rfl) (Nat.le_trans (by omega) C.2.2.2.1.2.2.1) ?_ hd (fun H1 locs1 P1 D1 S1 => ?_)
                  · have h9 := Nat.ble_eq.mp hb.2.2
                    have h8 := am_acw
                    rw [am_catm]
                    refine Nat.le_trans ?_ C.2.2.2.1.2.2.2
                    omega
                  · rw [show (Sum.inl (ty 4, n1, .inl (va_cpy f g sp.toNatClampNeg dp.toNatClampNeg w9.toNatClampNeg)) : va_E) = am_rc q ty (.inl (4, n1, .inl (va_cpy f g sp.toNatClampNeg dp.toNatClampNeg w9.toNatClampNeg))) from rfl, am_rz_set] at P1 D1
                    exact hP _ hs.2.2.2.2.2.2 q H1 locs1 ls (by rw [List.length_set]; exact g1) (by rw [List.length_set]; exact g2) P1 D1 S1 (am_has_pick _ g6) g7 g8
              · exact hs.elim
            · exact hs.elim
          · exact hs.elim
        · exact hs.elim
      · exact hs.elim
theorem am_o_prim_init (C : am_Cx p l e R s m args below meth c sc y d mc ms Φ D ty A q0 h0 Qf) (hP : ∀ x : am_S, P x → am_Wt p l e R s m args below meth c y mc ms D ty A q0 h0 Qf x) {idx : Nat} {len : Nat} (hd : decode (am_code y) pc = .ok (.invokespecial idx, len)) (hn : len = 3) (ha : a = 9999) (hw : Jvm.Cond.methodLink (am_nm y).cls idx objectInit ∈ wt_tbl) (hs : am_ex E sc y mc ms Φ P (.invokespecial idx) a b kf kt tg pc lv st h k n) : am_Wt p l e R s m args below meth c y mc ms D ty A q0 h0 Qf (pc, lv, st, h, k, n) := by
  subst hn
  subst ha
  unfold am_ex at hs
  dsimp only at hs
  rw [show Nat.beq 9999 9999 = true from rfl] at hs
  unfold am_b am_r1 at hs
  dsimp only at hs
  split at hs
  · rename_i o r
    try unfold am_b at hs
    split at hs
    · rename_i hcat
      intro q H locs ls g1 g2 g3 g4 g5 g6 g7 g8
      refine W.objInit C.1 C.2.1 C.2.2.2.2.1 (C.2.2.2.2.2.2.2.1 _ (am_mg hw rfl)) (C.2.2.2.2.2.2.2.1 _ (am_mg am_w_oiI rfl)) (C.2.2.2.2.2.2.2.1 _ (am_mg am_w_oiC rfl)) (g := F0 m pc ls (Value.ref (q o) :: r.map (am_rv q))) rfl (g6.1.trans C.2.2.1.symm) rfl hd (Nat.le_trans (by omega) C.2.2.2.1.2.2.1) ?_ (hP _ (hs) q H locs ls g1 g2 g3 g4 g5 (am_has_pick _ g6) g7 g8)
      have h9 := lv_room (m := m) (pc := pc) (ls := ls) (rest := Value.ref (q o) :: r.map (am_rv q)) (st := r.map (am_rv q)) (by rw [am_catm]; exact Nat.ble_eq.mp hcat)
      refine Nat.le_trans ?_ C.2.2.2.1.2.2.2
      omega
    · exact hs.elim
  · exact hs.elim
theorem am_o_aastore (C : am_Cx p l e R s m args below meth c sc y d mc ms Φ D ty A q0 h0 Qf) (hP : ∀ x : am_S, P x → am_Wt p l e R s m args below meth c y mc ms D ty A q0 h0 Qf x)  {len : Nat} (hd : decode (am_code y) pc = .ok (.aastore, len)) (hn : len = 1)  (hs : am_ex E sc y mc ms Φ P (.aastore) a b kf kt tg pc lv st h k n) : am_Wt p l e R s m args below meth c y mc ms D ty A q0 h0 Qf (pc, lv, st, h, k, n) := by
  subst hn
  replace hs : am_r1 st _ := hs
  match st, hs with
  | .ref w9 :: .int i :: .ref o :: r, hs =>
    dsimp only [am_i1, am_r1] at hs
    unfold am_arr at hs
    split at hs
    · rename_i x hx
      obtain ⟨t, n9, z⟩ := x
      dsimp only at hs
      unfold am_b at hs
      split at hs
      · rename_i hb
        have e := Nat.eq_of_beq_eq_true hb
        subst e
        unfold am_aq at hs
        split at hs
        · rename_i f hf
          dsimp only at hf
          subst hf
          unfold am_obj at hs
          split at hs
          · rename_i x1 hx1
            obtain ⟨ci, fs⟩ := x1
            dsimp only at hs
            split at hs
            · rename_i hb1
              have e1 := Nat.eq_of_beq_eq_true hb1
              subst e1
              have hlt : i.toNatClampNeg < n9 := Nat.not_le.mp fun q => hs.1 (Or.inr q)
              intro q H locs ls g1 g2 g3 g4 g5 g6 g7 g8
              refine va_astq (ci := 5) (r := (am_R 5, am_T 5, am_Nf 5)) C.1 C.2.1 C.2.2.2.2.2.2.2.2.1 g3 g4 g5 o 2 w9 (am_rz_get hx) rfl (am_rz_get hx1) (am_cl_get (by decide)) hs.1 hd (fun H1 locs1 P1 D1 S1 => ?_)
              have e9 : (Sum.inl (ty 2, n9, .inr (.inr (.inr (.inr (va_up (fun i => if i < n9 then (f i).map q else none) i.toNatClampNeg (some (q w9))))))) : va_E) = am_rc q ty (.inl (2, n9, .inr (.inr (.inr (.inr (va_up f i.toNatClampNeg (some w9))))))) := by
                show Sum.inl (ty 2, n9, _) = Sum.inl (ty 2, n9, _)
                congr 7
                funext j
                unfold va_up
                by_cases hj : j = i.toNatClampNeg
                · subst hj
                  rw [if_pos rfl, if_pos hlt, if_pos rfl]
                  rfl
                · rw [if_neg hj, if_neg hj]
              have P2 : va_P D vwCl ((am_rz q ty h).set o (q o, (Sum.inl (ty 2, n9, .inr (.inr (.inr (.inr (va_up (fun i => if i < n9 then (f i).map q else none) i.toNatClampNeg (some (q w9))))))) : va_E))) H1 := P1
              have D2 : va_D A ((am_rz q ty h).set o (q o, (Sum.inl (ty 2, n9, .inr (.inr (.inr (.inr (va_up (fun i => if i < n9 then (f i).map q else none) i.toNatClampNeg (some (q w9))))))) : va_E))) := D1
              rw [e9, am_rz_set] at P2 D2
              exact hP _ hs.2 q H1 locs1 ls (by rw [List.length_set]; exact g1) (by rw [List.length_set]; exact g2) P2 D2 S1 (am_has_pick _ g6) g7 g8
            · exact hs.elim
          · exact hs.elim
        · exact hs.elim
      · exact hs.elim
    · exact hs.elim
def am_yPC : MethodName := ⟨"jdk/internal/util/Preconditions", "checkIndex", "(IILjava/util/function/BiFunction;)I"⟩
def am_yCI : MethodName := ⟨"java/lang/String", "checkIndex", "(II)V"⟩
noncomputable def am_wPC : List Jvm.Cond := Jvm.Cond.code am_yPC prog_24_method_11_code 3 (some .int) :: am_tblg
noncomputable def am_wCI : List Jvm.Cond := Jvm.Cond.code am_yCI prog_17_method_155_code 2 none :: am_tblg
theorem am_wPCc : Jvm.Cond.code am_yPC prog_24_method_11_code 3 (some .int) ∈ wt_tbl := List.mem_of_getElem? (i := 185) rfl
theorem am_wCIc : Jvm.Cond.code am_yCI prog_17_method_155_code 2 none ∈ wt_tbl := List.mem_of_getElem? (i := 180) rfl
theorem am_wPCs : Jvm.Cond.static am_yPC ∈ wt_tbl := List.mem_of_getElem? (i := 184) rfl
theorem am_wCIs : Jvm.Cond.static am_yCI ∈ wt_tbl := List.mem_of_getElem? (i := 179) rfl
theorem am_wPCi : Jvm.Cond.initialized "jdk/internal/util/Preconditions" ∈ wt_tbl := List.mem_of_getElem? (i := 26) rfl
theorem am_wStr : Jvm.Cond.initialized "java/lang/String" ∈ wt_tbl := List.mem_of_getElem? (i := 24) rfl
theorem am_wPCl : Jvm.Cond.methodLink "java/lang/String" 1059 am_yPC ∈ wt_tbl := List.mem_of_getElem? (i := 183) rfl
theorem am_wSIO : Jvm.Cond.fieldLink "java/lang/String" 1053 "jdk/internal/util/Preconditions" "SIOOBE_FORMATTER" "Ljava/util/function/BiFunction;" ∈ wt_tbl := List.mem_of_getElem? (i := 181) rfl
theorem am_dP0 : decode prog_24_method_11_code 0 = .ok (.iload_n 0, 1) := by decide +kernel
theorem am_dP1 : decode prog_24_method_11_code 1 = .ok (.ifCond .lt 8, 3) := by decide +kernel
theorem am_dP4 : decode prog_24_method_11_code 4 = .ok (.iload_n 0, 1) := by decide +kernel
theorem am_dP5 : decode prog_24_method_11_code 5 = .ok (.iload_n 1, 1) := by decide +kernel
theorem am_dP6 : decode prog_24_method_11_code 6 = .ok (.if_icmp .lt 10, 3) := by decide +kernel
theorem am_dP16 : decode prog_24_method_11_code 16 = .ok (.iload_n 0, 1) := by decide +kernel
theorem am_dP17 : decode prog_24_method_11_code 17 = .ok (.ireturn, 1) := by decide +kernel
theorem am_dC0 : decode prog_17_method_155_code 0 = .ok (.iload_n 0, 1) := by decide +kernel
theorem am_dC1 : decode prog_17_method_155_code 1 = .ok (.iload_n 1, 1) := by decide +kernel
theorem am_dC2 : decode prog_17_method_155_code 2 = .ok (.getstatic 1053, 3) := by decide +kernel
theorem am_dC5 : decode prog_17_method_155_code 5 = .ok (.invokestatic 1059, 3) := by decide +kernel
theorem am_dC8 : decode prog_17_method_155_code 8 = .ok (.pop, 1) := by decide +kernel
theorem am_dC9 : decode prog_17_method_155_code 9 = .ok (.return_, 1) := by decide +kernel
theorem am_after0 {R : Room} {H : Heap} {locs : List Loc} {ls : Array Slot} {Q : State → Prop} {rest st0 : List Value} {Qa : State → Outcome → State → Prop} {r : Option Value} (hrun : va_Run p l e R s m args below meth c H locs k n 0 0 (F0 m pc ls st0) rest Qa (fun _ => False)) (hQ : ∀ (s0 : State) (v : Option Value) (t : State), Qa s0 (.returned v) t → v = r ∧ t.heap = s0.heap)
    (kk : W p l e R s m args below meth c H locs k n Q (F0 m (pc + 3) ls (r.toList ++ rest))) : W p l e R s m args below meth c H locs k n Q (F0 m pc ls st0) := by
  intro T hT X
  obtain ⟨v, st₀, t, T1, L, w0, X1, hL, e1, e2, hq, stp⟩ := hrun T hT X
  obtain ⟨rfl, hh⟩ := hQ _ _ _ hq
  have hL0 : L = [] := by
    cases L with
    | nil => rfl
    | cons x xs => exact (hL x List.mem_cons_self).elim
  subst hL0
  rw [List.append_nil] at X1
  obtain ⟨t2, a1, b1⟩ := kk T1 (by rw [e1, hh, w0]) X1
  exact ⟨t2, stp t2 a1, b1⟩
/-- Preconditions.checkIndex, within -/
theorem am_c_PC (l : Launch) (x z : Int32) (f : Value) (hf : f = .null ∨ ∃ a, f = .ref a) (h0 : ¬ x < 0) (h1 : x < z) : Met l am_yPC am_wPC { frames := 0, cells := 0, slots := 0, locals := 0 } (va_Pc [.int x, .int z, f] (fun _ => True)) (vp_Si (fun r => r = x)) 0 0 (fun _ => False) := by
  refine Met.ofW (cc := prog_24_method_11_code) (maxL := 3) (ret := some .int) (by decide +kernel) rfl ?_
  intro p e s m args below meth c s₁ B hml hv
  obtain ⟨rfl, -⟩ := hv
  have hx := B.exec
  have hb := B.bytes
  have hl := lv_entry ([.int x, .int z, f]) (n := 3) (by rcases hf with rfl | ⟨a, rfl⟩ <;> exact Nat.le_of_ble_eq_true rfl)
  rw [lg_entry_eq]
  generalize (lg_sl ([.int x, .int z, f]) ++ List.replicate (3 - (lg_sl ([.int x, .int z, f])).length) Slot.unset).toArray = ls at hl ⊢
  have hl : lv_has ls 3 [(0, .int x), (1, .int z), (2, f)] := hl
  refine lv_iload_n hx hb am_dP0 rfl (lv_at hl 0 rfl) ?_
  refine lv_if_lt (tgt := 9) hx hb am_dP1 (by decide) (fun w => absurd w h0) (fun _ => ?_)
  refine lv_iload_n hx hb am_dP4 rfl (lv_at hl 0 rfl) ?_
  refine lv_iload_n hx hb am_dP5 rfl (lv_at hl 1 rfl) ?_
  refine lv_icmp_lt (tgt := 16) hx hb am_dP6 (by decide) (fun _ => ?_) (fun w => absurd h1 w)
  refine lv_iload_n hx hb am_dP16 rfl (lv_at hl 0 rfl) ?_
  exact W.iret hx hb B.returns (fun t ht hW => ⟨x, rfl, rfl, ht⟩) (fun q hq => by cases hq) am_dP17 B.notSynchronized
/-- String.checkIndex, within -/
theorem am_c_CI (l : Launch) (x z : Int32) (h0 : ¬ x < 0) (h1 : x < z) : Met l am_yCI am_wCI { frames := 1, cells := 0, slots := 0, locals := 60 } (va_Pc [.int x, .int z] (fun U => va_Zq "jdk/internal/util/Preconditions" "SIOOBE_FORMATTER" "Ljava/util/function/BiFunction;" (fun _ => False) U U.heap)) (va_Sv (fun _ => True)) 0 0 (fun _ => False) := by
  refine Met.ofW (cc := prog_17_method_155_code) (maxL := 2) (ret := none) (by decide +kernel) rfl ?_
  intro p e s m args below meth c s₁ B hml hv
  obtain ⟨rfl, hZ⟩ := hv
  have hx := B.exec
  have hb := B.bytes
  have hts0 := atoms_spec (ws := am_wCI) B.pre
  have hts : ∀ w ∈ am_tblg, w.before ([.int x, .int z] : List Value).toArray s = true := fun w hw => hts0 w (List.mem_cons_of_mem _ hw)
  have hown : s.vm.findClass "java/lang/String" = some m.cls := findClass_of_methodNamed B.named
  have hl := lv_entry ([.int x, .int z]) (n := 2) (Nat.le_of_ble_eq_true rfl)
  rw [lg_entry_eq]
  generalize (lg_sl ([.int x, .int z]) ++ List.replicate (2 - (lg_sl ([.int x, .int z])).length) Slot.unset).toArray = ls at hl ⊢
  have hl : lv_has ls 2 [(0, .int x), (1, .int z)] := hl
  have key : ∀ f : Value, (f = .null ∨ ∃ a, f = .ref a) → va_Z "jdk/internal/util/Preconditions" "SIOOBE_FORMATTER" "Ljava/util/function/BiFunction;" f (fun _ => False) s s.heap → W p l e { frames := 1, cells := 0, slots := 0, locals := 60 } s m ([.int x, .int z] : List Value).toArray below meth c s.heap [] 0 0 (MQ below (va_Sv (fun _ => True)) ([.int x, .int z] : List Value).toArray s 0 0 (fun _ => False)) (F0 m 0 ls []) := by
    intro f hf hZ
    have hcat : f.category = 1 := by rcases hf with rfl | ⟨a, rfl⟩ <;> rfl
    refine lv_iload_n hx hb am_dC0 rfl (lv_at hl 0 rfl) ?_
    refine lv_iload_n hx hb am_dC1 rfl (lv_at hl 1 rfl) ?_
    refine va_gets hx hb hZ va_S.rf hown (hts _ (am_mg am_wSIO rfl)) (fun _ h => h) am_dC2 ?_
    refine am_after0 (r := some (.int x)) (va_runS (As := [.int x, .int z, f]) (rest := []) ⟨hx, hb, hml, hown, hts⟩ (am_c_PC l x z f hf h0 h1) ⟨callB_of 3 hts (fun w hw => by
        rcases List.mem_cons.mp hw with e | hw
        · subst e
          exact ⟨am_mg am_wPCc rfl, good_of_word rfl⟩
        · exact ⟨hw, good_of_word (List.mem_filter.mp hw).2⟩) rfl rfl rfl (hts _ (am_mg am_wPCi rfl)) (hts _ (am_mg am_wPCl rfl)) ⟨by decide +kernel, by decide +kernel, by decide +kernel⟩ ⟨Nat.le_of_ble_eq_true rfl, Nat.le_of_ble_eq_true rfl⟩, hts _ (am_mg am_wPCs rfl)⟩ ⟨fun _ _ _ _ q => q, fun U hU hW => ⟨rfl, trivial⟩⟩ rfl rfl hl.1 rfl (lv_room (Nat.zero_le _)) am_dC5 ⟨Nat.le_of_ble_eq_true rfl, Nat.le_of_ble_eq_true rfl⟩) (fun s0 v t hq => ?_) ?_
    · obtain ⟨r, hr, rfl, hh⟩ := hq
      exact ⟨by injection hr, hh⟩
    · refine lv_pop hx hb am_dC8 rfl ?_
      exact W.vret hx hb B.returns (fun t ht hW => ⟨rfl, trivial, ht⟩) (fun q hq => by cases hq) am_dC9 B.notSynchronized
  rcases hZ with hZ | ⟨t, hZ⟩
  · exact key _ (Or.inl rfl) hZ
  · exact key _ (Or.inr ⟨t, rfl⟩) hZ
theorem am_o_prim_check (C : am_Cx p l e R s m args below meth c sc y d mc ms Φ D ty A q0 h0 Qf) (hP : ∀ x : am_S, P x → am_Wt p l e R s m args below meth c y mc ms D ty A q0 h0 Qf x) {idx : Nat} {len : Nat} (hd : decode (am_code y) pc = .ok (.invokestatic idx, len)) (hn : len = 3) (ha : a = 9004) (hw : Jvm.Cond.methodLink (am_nm y).cls idx am_yCI ∈ wt_tbl) (hs : am_ex E sc y mc ms Φ P (.invokestatic idx) a b kf kt tg pc lv st h k n) : am_Wt p l e R s m args below meth c y mc ms D ty A q0 h0 Qf (pc, lv, st, h, k, n) := by
  subst hn
  subst ha
  replace hs : am_i2 st _ := hs
  unfold am_i2 at hs
  split at hs
  · rename_i z x r
    unfold am_b at hs
    split at hs
    · rename_i hb
      simp only [Bool.and_eq_true] at hb
      have hcat := Nat.ble_eq.mp hb.1
      have hh : h.length ≤ am_pX := Nat.ble_eq.mp hb.2
      intro q H locs ls g1 g2 g3 g4 g5 g6 g7 g8
      have hZq := (am_X_ag g1 hh C.2.2.2.2.2.2.2.2.2.2.1).1.2.2.2
      refine am_after0 (r := none) (va_runS (As := [.int x, .int z]) (rest := r.map (am_rv q)) ⟨C.1, C.2.1, C.2.2.1, C.2.2.2.2.1, C.2.2.2.2.2.2.2.1⟩ (am_c_CI l x z hs.1 hs.2.1) ⟨callB_of 2 C.2.2.2.2.2.2.2.1 (fun w9 hw9 => ?_) rfl rfl rfl (C.2.2.2.2.2.2.2.1 _ (am_mg am_wStr rfl)) (C.2.2.2.2.2.2.2.1 _ (am_mg hw rfl)) ⟨by decide +kernel, by decide +kernel, by decide +kernel⟩ ⟨Nat.le_trans (by show 1 + 1 ≤ d + 4; omega) C.2.2.2.1.2.2.1, Nat.le_trans (by show 8 + (2 + 11) + 60 ≤ 60 * (d + 4); omega) C.2.2.2.1.2.2.2⟩, C.2.2.2.2.2.2.2.1 _ (am_mg am_wCIs rfl)⟩ ⟨fun _ _ _ _ w => w, fun U hU hW => ⟨rfl, ?_⟩⟩ rfl rfl g6.1 rfl (lv_room (by rw [am_catm]; exact hcat)) hd ⟨Nat.le_trans g7 C.2.2.2.1.1, Nat.le_trans g8 C.2.2.2.1.2.1⟩) (fun s0 v t hq => ?_) ?_
      · rcases List.mem_cons.mp hw9 with e9 | hw9
        · subst e9
          exact ⟨am_mg am_wCIc rfl, good_of_word rfl⟩
        · exact ⟨hw9, good_of_word (List.mem_filter.mp hw9).2⟩
      · have h9 := ((hZq.kept g5.2.1).narrow (B := fun _ => False) (fun _ w => w.elim)).moved hW.alike
        rw [← hU] at h9
        exact h9
      · obtain ⟨hr, -, hh9⟩ := hq
        exact ⟨by injection hr, hh9⟩
      · exact (hP _ (hs.2.2) q H locs ls g1 g2 g3 g4 g5 (am_has_pick _ g6) g7 g8)
    · exact hs.elim
  · exact hs.elim
theorem am_rz_app2 {q : Nat → Nat} {h g : am_H} : am_rz q ty (h ++ g) = am_rz q ty h ++ g.mapIdx (fun k x => (q (h.length + k), am_rc q ty x)) := by
  unfold am_rz
  rw [List.mapIdx_append]
  congr 2
  funext k x
  rw [Nat.add_comm]
def am_qm (q : Nat → Nat) (r9 : Nat → Nat) (q9 N L : Nat) : Nat → Nat := fun j => if j = L then q9 else if L < j ∧ j < L + 1 + N then r9 (j - L - 1) else q j
theorem am_o_multianewarray (C : am_Cx p l e R s m args below meth c sc y d mc ms Φ D ty A q0 h0 Qf) (hP : ∀ x : am_S, P x → am_Wt p l e R s m args below meth c y mc ms D ty A q0 h0 Qf x) {idx : Nat} {len : Nat} (hd : decode (am_code y) pc = .ok (.multianewarray idx 2, len)) (hn : len = 4) (hw : Jvm.Cond.classLink (am_nm y).cls idx "[[I" ∈ wt_tbl) (hs : am_ex E sc y mc ms Φ P (.multianewarray idx 2) a b kf kt tg pc lv st h k n) : am_Wt p l e R s m args below meth c y mc ms D ty A q0 h0 Qf (pc, lv, st, h, k, n) := by
  subst hn
  replace hs : am_i2 st _ := hs
  unfold am_i2 at hs
  split at hs
  · rename_i x w r
    unfold am_b at hs
    split at hs
    · rename_i hn
      split at hs
      · rename_i hm
        simp only [Bool.and_eq_true, Bool.not_eq_true', decide_eq_false_iff_not] at hm
        obtain ⟨m1, m2, m3, m4, m5, m6⟩ := hm
        replace m3 := Nat.ble_eq.mp m3
        replace m4 := Nat.ble_eq.mp m4
        replace m5 := Nat.ble_eq.mp m5
        replace m6 := Nat.ble_eq.mp m6
        intro q H locs ls g1 g2 g3 g4 g5 g6 g7 g8
        have hP0 : va_P D vwCl (am_rz q ty h ++ va_pl [] (fun _ => .inr (0, []))) H := by show va_P D vwCl (am_rz q ty h ++ []) H; rw [List.append_nil]; exact g3
        have hD0 : va_D A (am_rz q ty h ++ va_pl [] (fun _ => .inr (0, []))) := by show va_D A (am_rz q ty h ++ []); rw [List.append_nil]; exact g4
        refine va_mna (ty := .int) (cy := ty 0) (L := []) (N' := w.toNatClampNeg) (K' := x.toNatClampNeg) (z := (x.toNatClampNeg, .inl (fun _ => 0))) C.1 C.2.1 C.2.2.2.2.1 (C.2.2.2.2.2.2.2.1 _ (am_mg hw rfl)) C.2.2.2.2.2.2.2.2.2.2.1.2.1.2.2 (C.2.2.2.2.2.2.2.1 _ (am_mg am_wI rfl)) (C.2.2.2.2.2.2.2.2.1.2 0 _ rfl).2 C.2.2.2.2.2.2.2.2.1 hP0 hD0 g5 C.2.2.2.2.2.2.2.2.2.1 m2 m1 rfl rfl (by omega) (by show x.toNatClampNeg * 4 ≤ _; omega) (by omega) rfl rfl (by show k + (1 + w.toNatClampNeg) ≤ R.cells; have := C.2.2.2.1.1; omega) (by show n + (w.toNatClampNeg + w.toNatClampNeg * x.toNatClampNeg) ≤ R.slots; have := C.2.2.2.1.2.1; omega) (fun c9 => ?_) hd (fun q9 r9 cA H1 hinj hout K1 P1 D1 S1 => ?_)
        · show _ = arrV c9 x.toNatClampNeg (fun _ => Value.int 0)
          rw [← arrV_new]
          rfl
        have hcA := am_tys_uniq (k := 3) C.2.2.2.2.2.2.2.2.1 rfl K1
        subst hcA
        simp only [am_nh, Bool.and_eq_true] at hn
        have hq : ∀ j, (j < h.length ∨ h.length + 1 + w.toNatClampNeg ≤ j) → am_qm q r9 q9 w.toNatClampNeg h.length j = q j := fun j hj => by
          unfold am_qm
          rw [if_neg (by omega), if_neg (by omega)]
        have e3 : am_rz (am_qm q r9 q9 w.toNatClampNeg h.length) ty ((h ++ [.inl (3, w.toNatClampNeg, .inr (.inr (.inr (.inr (fun i => some (h.length + 1 + i))))))]) ++ List.replicate w.toNatClampNeg (.inl (0, x.toNatClampNeg, .inl (fun _ => 0)))) = (am_rz q ty h ++ [(q9, .inl (ty 3, w.toNatClampNeg, .inr (.inr (.inr (.inr (fun i => if i < w.toNatClampNeg then some (r9 i) else none))))))]) ++ va_pl ([] ++ (List.range w.toNatClampNeg).map r9) (vr_up (fun _ => .inr (0, [])) ((List.range w.toNatClampNeg).map r9) (.inl (ty 0, x.toNatClampNeg, .inl (fun _ => 0)))) := by
          rw [am_rz_app2, am_rz_app, am_nh_rz hq (Nat.le_refl _) hn.2.2]
          congr 1
          · congr 2
            refine Prod.ext ?_ ?_
            · show am_qm q r9 q9 w.toNatClampNeg h.length h.length = q9
              unfold am_qm
              rw [if_pos rfl]
            · show Sum.inl (ty 3, w.toNatClampNeg, _) = Sum.inl (ty 3, w.toNatClampNeg, _)
              congr 7
              funext j
              by_cases hj : j < w.toNatClampNeg
              · rw [if_pos hj, if_pos hj]
                show some (am_qm q r9 q9 w.toNatClampNeg h.length (h.length + 1 + j)) = some (r9 j)
                unfold am_qm
                rw [if_neg (by omega), if_pos (by omega)]
                congr 2
                omega
              · rw [if_neg hj, if_neg hj]
          · apply List.ext_getElem?
            intro j
            unfold va_pl
            rw [List.getElem?_mapIdx, List.nil_append, List.getElem?_map, List.getElem?_map]
            by_cases hj : j < w.toNatClampNeg
            · rw [List.getElem?_range hj, List.getElem?_replicate, if_pos hj]
              show some (am_qm q r9 q9 w.toNatClampNeg h.length ((h ++ [_]).length + j), _) = some (r9 j, vr_up _ _ _ (r9 j))
              rw [vr_up_in (List.mem_map.mpr ⟨j, List.mem_range.mpr hj, rfl⟩)]
              congr 2
              unfold am_qm
              simp only [List.length_append, List.length_cons, List.length_nil]
              rw [if_neg (by omega), if_pos (by omega)]
              congr 1
              omega
            · rw [List.getElem?_replicate, if_neg hj, List.getElem?_eq_none (by rw [List.length_range]; omega)]
              rfl
        have eL : ((h ++ [(Sum.inl (3, w.toNatClampNeg, .inr (.inr (.inr (.inr (fun i => some (h.length + 1 + i)))))) : am_C)]) ++ List.replicate w.toNatClampNeg (Sum.inl (0, x.toNatClampNeg, .inl (fun _ => 0)) : am_C)).length = h.length + 1 + w.toNatClampNeg := by simp; omega
        have g29 : h0.length ≤ h.length := g2
        refine W.eq (g2 := F0 m (pc + 4) ls ((Value.ref h.length :: r).map (am_rv (am_qm q r9 q9 w.toNatClampNeg h.length)))) ?_ ?_
        · show F0 m (pc + 4) ls (Value.ref q9 :: r.map (am_rv q)) = F0 m (pc + 4) ls (Value.ref (am_qm q r9 q9 w.toNatClampNeg h.length h.length) :: r.map (am_rv (am_qm q r9 q9 w.toNatClampNeg h.length)))
          rw [am_ns_rv hq hn.2.1]
          unfold am_qm
          rw [if_pos rfl]
        · refine hP _ hs (am_qm q r9 q9 w.toNatClampNeg h.length) H1 locs ls (fun j hj => ?_) ?_ (by rw [e3]; exact P1) (by rw [e3]; exact D1) S1 (am_has_pick _ (by rw [am_nl_rl hq hn.1]; exact g6)) m5 m6
          · rw [eL] at hj
            rw [hq j (by omega)]
            exact g1 j (show j < h0.length ∨ h.length ≤ j by omega)
          · rw [eL]
            omega
      · exact hs.elim
    · exact hs.elim
  · exact hs.elim
end OPS
end
section
/-! ===== a run over a part of the heap, as a contract over the whole of it ===== -/
theorem am_mv_rv {q r : Nat → Nat} (v : Value) : am_rv q (am_mv r v) = am_rv (fun k => q (r k)) v := by cases v <;> rfl
theorem am_mv_map {q r : Nat → Nat} (as : List Value) : (as.map (am_mv r)).map (am_rv q) = as.map (am_rv (fun k => q (r k))) := by
  rw [List.map_map]
  apply List.map_congr_left
  intro v _
  exact am_mv_rv v
theorem am_mc_rc {q r : Nat → Nat} {ty : Nat → ClassId} (c : am_C) : am_rc q ty (am_mc r c) = am_rc (fun k => q (r k)) ty c := by
  cases c with
  | inr o =>
    show Sum.inr (o.1, (o.2.map (am_mv r)).map (am_rv q)) = Sum.inr (o.1, o.2.map (am_rv _))
    rw [am_mv_map]
  | inl o =>
    obtain ⟨t, n, z⟩ := o
    match z with
    | .inl f => rfl
    | .inr (.inl f) => rfl
    | .inr (.inr (.inl f)) => rfl
    | .inr (.inr (.inr (.inl f))) => rfl
    | .inr (.inr (.inr (.inr f))) =>
      show Sum.inl (ty t, n, _) = Sum.inl (ty t, n, _)
      congr 7
      funext i
      by_cases hi : i < n
      · rw [if_pos hi, if_pos hi]
        cases hf : f i with
        | none => simp [hf]
        | some a => simp [hf]
      · rw [if_neg hi, if_neg hi]
theorem am_ro_hi {lo n off k : Nat} (h : am_pX ≤ k) : am_ro lo n off k = k := by
  unfold am_ro
  rw [Nat.ble_eq_true_of_le h]
  rfl
theorem am_ro_lo {lo n off k : Nat} (hp : k < am_pX) (h : k < n) : am_ro lo n off k = k + lo := by
  unfold am_ro
  rw [show Nat.ble am_pX k = false from Bool.eq_false_iff.mpr (fun q => by have := Nat.le_of_ble_eq_true q; omega), show Nat.ble n k = false from Bool.eq_false_iff.mpr (fun q => by have := Nat.le_of_ble_eq_true q; omega)]
  rfl
theorem am_ro_mid {lo n off k : Nat} (hp : k < am_pX) (h : n ≤ k) : am_ro lo n off k = k + off := by
  unfold am_ro
  rw [show Nat.ble am_pX k = false from Bool.eq_false_iff.mpr (fun q => by have := Nat.le_of_ble_eq_true q; omega), Nat.ble_eq_true_of_le h]
  rfl
theorem am_rz_len {q : Nat → Nat} {ty : Nat → ClassId} {h : am_H} : (am_rz q ty h).length = h.length := List.length_mapIdx
theorem am_rz_at {q : Nat → Nat} {ty : Nat → ClassId} {h : am_H} {k : Nat} {e : Nat × va_E} (he : (am_rz q ty h)[k]? = some e) : ∃ c, h[k]? = some c ∧ e = (q k, am_rc q ty c) := by
  unfold am_rz at he
  rw [List.getElem?_mapIdx] at he
  cases hk : h[k]? with
  | none => rw [hk] at he; cases he
  | some c =>
    rw [hk] at he
    cases he
    exact ⟨c, rfl, rfl⟩
section FRAME
variable {sc : Option (Nat × (Nat → Int32))} {D : va_G} {ty : Nat → ClassId} {q q1 : Nat → Nat} {pre post h0 h2 : am_H} {sz : Nat}
/-- the part's cells are cells of the whole -/
theorem am_fr_in (hb : h2.length + (pre.length + post.length) ≤ am_pX) (hle : h0.length ≤ h2.length) (k : Nat) (e : Nat × va_E) (he : (am_rz (fun k => q (am_ro pre.length h0.length (pre.length + post.length) k)) ty h0)[k]? = some e) : (am_rz q ty (pre ++ (h0.map (am_mc (am_ro pre.length h0.length (pre.length + post.length))) ++ post)))[pre.length + k]? = some e := by
  obtain ⟨c, hc, rfl⟩ := am_rz_at he
  have hk : k < h0.length := (List.getElem?_eq_some_iff.mp hc).1
  have h1 : (pre ++ (h0.map (am_mc (am_ro pre.length h0.length (pre.length + post.length))) ++ post))[pre.length + k]? = some (am_mc (am_ro pre.length h0.length (pre.length + post.length)) c) := by
    rw [List.getElem?_append_right (by omega), Nat.add_sub_cancel_left, List.getElem?_append_left (by rw [List.length_map]; exact hk), List.getElem?_map, hc]
    rfl
  rw [am_rz_get h1, am_mc_rc, am_ro_lo (by omega) hk, Nat.add_comm k]
theorem am_fr_vA (hb : h2.length + (pre.length + post.length) ≤ am_pX) (hle : h0.length ≤ h2.length) (x : Nat) (hx : va_A (am_rz (fun k => q (am_ro pre.length h0.length (pre.length + post.length) k)) ty h0) sz x) : va_A (am_rz q ty (pre ++ (h0.map (am_mc (am_ro pre.length h0.length (pre.length + post.length))) ++ post))) sz x := by
  rcases hx with ⟨k, e, hx⟩ | hx
  · exact Or.inl ⟨_, e, am_fr_in hb hle k (x, e) hx⟩
  · exact Or.inr hx
theorem am_fr_D {A : Nat → Prop} (hb : h2.length + (pre.length + post.length) ≤ am_pX) (hle : h0.length ≤ h2.length) (h : va_D A (am_rz q ty (pre ++ (h0.map (am_mc (am_ro pre.length h0.length (pre.length + post.length))) ++ post)))) : va_D A (am_rz (fun k => q (am_ro pre.length h0.length (pre.length + post.length) k)) ty h0) :=
  ⟨fun i j p1 p2 h1 h3 h4 => by have := h.1 _ _ _ _ (am_fr_in hb hle i p1 h1) (am_fr_in hb hle j p2 h3) h4; omega, fun k e he => h.2 _ e (am_fr_in hb hle k e he)⟩
theorem am_fr_P (hb : h2.length + (pre.length + post.length) ≤ am_pX) (hle : h0.length ≤ h2.length) {U : State} (h : am_P sc D ty q (pre ++ (h0.map (am_mc (am_ro pre.length h0.length (pre.length + post.length))) ++ post)) sz U) : am_P sc D ty (fun k => q (am_ro pre.length h0.length (pre.length + post.length) k)) h0 sz U := by
  obtain ⟨a1, a2, a3, a4, a5⟩ := h
  refine ⟨a1, a2.by (fun k => pre.length + k) (fun k e he => am_fr_in hb hle k e he), a3, am_fr_D hb hle a4, ?_⟩
  refine am_X_narrow (am_X_q (q := q) (fun j hj => ?_) a5) (fun x hx => am_fr_vA hb hle x hx)
  show q (am_ro _ _ _ j) = q j
  rw [am_ro_hi hj]
/-- the places behind: those of the whole, and those that are new -/
def am_q2 (q q1 : Nat → Nat) (lo hi n : Nat) : Nat → Nat := fun j => if lo ≤ j ∧ j < hi then q1 (n + (j - lo)) else q j
theorem am_q2_ro (hb : h2.length + (pre.length + post.length) ≤ am_pX) (hle : h0.length ≤ h2.length) (f1 : am_ag (fun k => q (am_ro pre.length h0.length (pre.length + post.length) k)) q1 h0.length h2.length) (k : Nat) : am_q2 q q1 (pre.length + (h0.length + post.length)) (pre.length + (h2.length + post.length)) h0.length (am_ro pre.length h0.length (pre.length + post.length) k) = q1 k := by
  unfold am_q2
  rcases Nat.lt_or_ge k h0.length with hk | hk
  · rw [am_ro_lo (by omega) hk, if_neg (by omega), f1 k (Or.inl hk)]
    show _ = q (am_ro _ _ _ k)
    rw [am_ro_lo (by omega) hk]
  · rcases Nat.lt_or_ge k am_pX with hp | hp
    · rw [am_ro_mid hp hk]
      rcases Nat.lt_or_ge k h2.length with h9 | h9
      · rw [if_pos (by omega)]
        congr 1
        omega
      · rw [if_neg (by omega), f1 k (Or.inr h9)]
        show _ = q (am_ro _ _ _ k)
        rw [am_ro_mid hp hk]
    · rw [am_ro_hi hp, if_neg (by omega), f1 k (Or.inr (by omega))]
      show _ = q (am_ro _ _ _ k)
      rw [am_ro_hi hp]
theorem am_q2_ag : am_ag q (am_q2 q q1 (pre.length + (h0.length + post.length)) (pre.length + (h2.length + post.length)) h0.length) (pre.length + (h0.length + post.length)) (pre.length + (h2.length + post.length)) := fun j hj => by
  unfold am_q2
  rw [if_neg (by omega)]
/-- a cell behind: one of the whole's others, or one of the part's -/
theorem am_fr_out (hb : h2.length + (pre.length + post.length) ≤ am_pX) (hle : h0.length ≤ h2.length) (f1 : am_ag (fun k => q (am_ro pre.length h0.length (pre.length + post.length) k)) q1 h0.length h2.length) (hn : h2.length = h0.length ∨ (pre ++ post).all (am_nc (pre.length + (h0.length + post.length)) (pre.length + (h2.length + post.length))) = true) (j : Nat) (e : Nat × va_E) (he : (am_rz (am_q2 q q1 (pre.length + (h0.length + post.length)) (pre.length + (h2.length + post.length)) h0.length) ty (pre ++ ((h2.take h0.length).map (am_mc (am_ro pre.length h0.length (pre.length + post.length))) ++ (post ++ (h2.drop h0.length).map (am_mc (am_ro pre.length h0.length (pre.length + post.length)))))))[j]? = some e) :
    ((am_rz q ty (pre ++ (h0.map (am_mc (am_ro pre.length h0.length (pre.length + post.length))) ++ post)))[j]? = some e ∧ (j < pre.length ∨ pre.length + h0.length ≤ j)) ∨ ∃ k, (am_rz q1 ty h2)[k]? = some e ∧ am_ro pre.length h0.length (pre.length + post.length) k = j := by
  have hq2 := am_q2_ro hb hle f1
  obtain ⟨c, hc, rfl⟩ := am_rz_at he
  have hcc : ∀ c, (c ∈ pre ∨ c ∈ post) → am_rc (am_q2 q q1 (pre.length + (h0.length + post.length)) (pre.length + (h2.length + post.length)) h0.length) ty c = am_rc q ty c := fun c hm => by
    rcases hn with hn | hn
    · have : am_q2 q q1 (pre.length + (h0.length + post.length)) (pre.length + (h2.length + post.length)) h0.length = q := by
        funext j
        unfold am_q2
        rw [if_neg (by omega)]
      rw [this]
    · exact am_nc_rc am_q2_ag (List.all_eq_true.mp hn c (by rw [List.mem_append]; exact hm))
  have part : ∀ k c0, h2[k]? = some c0 → am_ro pre.length h0.length (pre.length + post.length) k = j → c = am_mc (am_ro pre.length h0.length (pre.length + post.length)) c0 → ∃ k, (am_rz q1 ty h2)[k]? = some (am_q2 q q1 (pre.length + (h0.length + post.length)) (pre.length + (h2.length + post.length)) h0.length j, am_rc (am_q2 q q1 (pre.length + (h0.length + post.length)) (pre.length + (h2.length + post.length)) h0.length) ty c) ∧ am_ro pre.length h0.length (pre.length + post.length) k = j := fun k c0 hk hj hcc0 => by
    refine ⟨k, ?_, hj⟩
    rw [am_rz_get hk, ← hj, hq2 k, hcc0, am_mc_rc]
    congr 3
    funext k9
    exact (hq2 k9).symm
  rcases Nat.lt_or_ge j pre.length with h1 | h1
  · rw [List.getElem?_append_left h1] at hc
    left
    refine ⟨?_, Or.inl h1⟩
    rw [am_rz_get (show (pre ++ _)[j]? = some c by rw [List.getElem?_append_left h1]; exact hc), hcc c (Or.inl (List.mem_of_getElem? hc)), am_q2_ag j (by omega)]
  · rw [List.getElem?_append_right h1] at hc
    have hl1 : ((h2.take h0.length).map (am_mc (am_ro pre.length h0.length (pre.length + post.length)))).length = h0.length := by rw [List.length_map, List.length_take]; omega
    rcases Nat.lt_or_ge (j - pre.length) h0.length with h3 | h3
    · right
      rw [List.getElem?_append_left (by omega), List.getElem?_map] at hc
      cases hk : (h2.take h0.length)[j - pre.length]? with
      | none => rw [hk] at hc; cases hc
      | some c0 =>
        rw [hk] at hc
        rw [List.getElem?_take] at hk
        rw [if_pos h3] at hk
        refine part (j - pre.length) c0 hk ?_ (Option.some.inj hc).symm
        rw [am_ro_lo (by omega) h3]
        omega
    · rw [List.getElem?_append_right (by omega), hl1] at hc
      rcases Nat.lt_or_ge (j - pre.length - h0.length) post.length with h4 | h4
      · rw [List.getElem?_append_left h4] at hc
        left
        refine ⟨?_, Or.inr (by omega)⟩
        rw [am_rz_get (c := c) (k := j) (show (pre ++ _)[j]? = some c by rw [List.getElem?_append_right h1, List.getElem?_append_right (by rw [List.length_map]; omega), List.length_map]; exact hc), hcc c (Or.inr (List.mem_of_getElem? hc)), am_q2_ag j (by omega)]
      · right
        rw [List.getElem?_append_right h4, List.getElem?_map] at hc
        cases hk : (h2.drop h0.length)[j - pre.length - h0.length - post.length]? with
        | none => rw [hk] at hc; cases hc
        | some c0 =>
          rw [hk] at hc
          rw [List.getElem?_drop] at hk
          have hlt := (List.getElem?_eq_some_iff.mp hk).1
          refine part _ c0 hk ?_ (Option.some.inj hc).symm
          rw [am_ro_mid (by omega) (by omega)]
          omega
theorem am_ro_inj {i j : Nat} (hb : h2.length + (pre.length + post.length) ≤ am_pX) (hle : h0.length ≤ h2.length) (hi : i < h2.length) (hj : j < h2.length) (e : am_ro pre.length h0.length (pre.length + post.length) i = am_ro pre.length h0.length (pre.length + post.length) j) : i = j := by
  rcases Nat.lt_or_ge i h0.length with h1 | h1 <;> rcases Nat.lt_or_ge j h0.length with h3 | h3
  · rw [am_ro_lo (by omega) h1, am_ro_lo (by omega) h3] at e; omega
  · rw [am_ro_lo (by omega) h1, am_ro_mid (by omega) h3] at e; omega
  · rw [am_ro_mid (by omega) h1, am_ro_lo (by omega) h3] at e; omega
  · rw [am_ro_mid (by omega) h1, am_ro_mid (by omega) h3] at e; omega
set_option maxHeartbeats 1000000 in
theorem am_fr_Q (hb : h2.length + (pre.length + post.length) ≤ am_pX) (hle : h0.length ≤ h2.length) (hn : h2.length = h0.length ∨ (pre ++ post).all (am_nc (pre.length + (h0.length + post.length)) (pre.length + (h2.length + post.length))) = true) {r0 : Option Value} {a a1 : Array Value} {st t : State} {o : Outcome}
    (hP : am_P sc D ty q (pre ++ (h0.map (am_mc (am_ro pre.length h0.length (pre.length + post.length))) ++ post)) sz st) (hQ : am_Q D ty (fun k => q (am_ro pre.length h0.length (pre.length + post.length) k)) h0 r0 h2 sz a st o t) :
    am_Q D ty q (pre ++ (h0.map (am_mc (am_ro pre.length h0.length (pre.length + post.length))) ++ post)) (r0.map (am_mv (am_ro pre.length h0.length (pre.length + post.length)))) (pre ++ ((h2.take h0.length).map (am_mc (am_ro pre.length h0.length (pre.length + post.length))) ++ (post ++ (h2.drop h0.length).map (am_mc (am_ro pre.length h0.length (pre.length + post.length)))))) sz a1 st o t := by
  obtain ⟨⟨q1, f1, f2, f3, f4, f5⟩, f6⟩ := hQ
  obtain ⟨a1, a2, a3, a4, a5⟩ := hP
  have hq2 := am_q2_ro hb hle f1
  have out := am_fr_out (ty := ty) hb hle f1 hn
  have lh : (pre ++ (h0.map (am_mc (am_ro pre.length h0.length (pre.length + post.length))) ++ post)).length = pre.length + (h0.length + post.length) := by rw [List.length_append, List.length_append, List.length_map]
  have lh1 : (pre ++ ((h2.take h0.length).map (am_mc (am_ro pre.length h0.length (pre.length + post.length))) ++ (post ++ (h2.drop h0.length).map (am_mc (am_ro pre.length h0.length (pre.length + post.length)))))).length = pre.length + (h2.length + post.length) := by
    simp only [List.length_append, List.length_map, List.length_take, List.length_drop]
    omega
  -- a cell of the frame isn't one of the part's
  have away : ∀ (j : Nat) (e : Nat × va_E), (am_rz q ty (pre ++ (h0.map (am_mc (am_ro pre.length h0.length (pre.length + post.length))) ++ post)))[j]? = some e → (j < pre.length ∨ pre.length + h0.length ≤ j) → ¬ va_A (am_rz (fun k => q (am_ro pre.length h0.length (pre.length + post.length) k)) ty h0) sz e.1 := by
    intro j e he hj hA
    rcases hA with ⟨k, e2, hk⟩ | hA
    · have := a4.1 _ _ _ _ he (am_fr_in hb hle k _ hk) rfl
      have hk9 : k < h0.length := by have := (List.getElem?_eq_some_iff.mp hk).1; rwa [am_rz_len] at this
      omega
    · have := (a2 j e he).lt
      omega
  refine ⟨⟨am_q2 q q1 (pre.length + (h0.length + post.length)) (pre.length + (h2.length + post.length)) h0.length, ?_, ?_, ?_, f4, ?_, ?_⟩, ?_⟩
  · rw [lh, lh1]
    exact am_q2_ag
  · rw [f2]
    congr 1
    cases r0 with
    | none => rfl
    | some v =>
      show some (am_rv q1 v) = some (am_rv _ (am_mv _ v))
      rw [am_mv_rv]
      congr 2
      funext k
      exact (hq2 k).symm
  · intro j e he
    rcases out j e he with ⟨h3, h4⟩ | ⟨k, h3, -⟩
    · refine (a2 j e h3).kept (f6.2 _ ?_ (away j e h3 h4))
      exact (a2 j e h3).lt
    · exact f3 k e h3
  · intro i j p1 p2 hi hj hp
    rcases out i p1 hi with ⟨h3, h4⟩ | ⟨k, h3, hk⟩ <;> rcases out j p2 hj with ⟨h5, h6⟩ | ⟨k2, h5, hk2⟩
    · exact a4.1 _ _ _ _ h3 h5 hp
    · exact absurd (by rw [hp]; exact f5.2 _ _ h5) (away i p1 h3 h4)
    · exact absurd (by rw [← hp]; exact f5.2 _ _ h3) (away j p2 h5 h6)
    · rw [← hk, ← hk2, f5.1 _ _ _ _ h3 h5 hp]
  · intro j e he
    rcases out j e he with ⟨h3, h4⟩ | ⟨k, h3, -⟩
    · exact va_A.in h3
    · exact am_fr_vA hb hle _ (f5.2 _ _ h3)
  · exact ⟨f6.1, fun x hx hA => f6.2 x hx (fun w => hA (am_fr_vA hb hle x w))⟩
end FRAME
/-- the frame rule -/
theorem am_frame {sc : Option (Nat × (Nat → Int32))} {l : Launch} {d : Nat} {D : va_G} {ty : Nat → ClassId} {E : am_E} (hE : ∀ (z : Nat) (as : List Value) (h : am_H) (r : Option Value) (h1 : am_H) (mc1 ms1 : Nat), z < 129 → E z as h r h1 mc1 ms1 → am_MetD sc l d D ty z as h r h1 mc1 ms1) (z : Nat) (as : List Value) (h : am_H) (r : Option Value) (h1 : am_H) (mc1 ms1 : Nat) (hz : z < 129) (he : am_fr E z as h r h1 mc1 ms1) : am_MetD sc l d D ty z as h r h1 mc1 ms1 := by
  obtain ⟨pre, post, h0, h2, as0, r0, he, hle, hb, hn, rfl, rfl, rfl, rfl⟩ := he
  intro q sz hle2
  have M := hE z as0 h0 r0 h2 mc1 ms1 hz he (fun k => q (am_ro pre.length h0.length (pre.length + post.length) k)) sz hle
  unfold Met at M ⊢
  refine MetFree.mono M (fun a s hp => ⟨?_, am_fr_P (h2 := h2) hb hle hp.2⟩) (fun _ _ _ _ _ h => h) (fun a s o t hp hq => ⟨am_fr_Q hb hle hn hp.2 hq.1, ?_⟩)
  · rw [hp.1, am_mv_map]
  · obtain ⟨-, L, hL1, hL2⟩ := hq
    exact ⟨L, hL1, fun x hx => am_fr_vA (h2 := h2) hb hle _ (hL2 x hx)⟩
end
section
/-! ===== the abstract machine runs: so does the machine ===== -/
section OPS
variable {p : Program} {l : Launch} {e : Env} {R : Room} {s : State} {m : MethodId} {args : Array Value} {below : List Frame} {meth : Method} {c : Code} {sc : Option (Nat × (Nat → Int32))} {y d mc ms : Nat} {Φ : Option Value → am_H → Prop} {D : va_G} {ty : Nat → ClassId} {A : Nat → Prop} {q0 : Nat → Nat} {h0 : am_H} {Qf : State → Prop}
variable {E : am_E} {P : am_S → Prop} {pc a b k n : Nat} {kf kt : Option (List Nat)} {tg : List (Nat × List Nat)} {lv : am_L} {st : List Value} {h : am_H}
theorem am_exec (C : am_Cx p l e R s m args below meth c sc y d mc ms Φ D ty A q0 h0 Qf) (hP : ∀ x : am_S, P x → am_Wt p l e R s m args below meth c y mc ms D ty A q0 h0 Qf x) (hE : ∀ (z : Nat) (as : List Value) (h : am_H) (r : Option Value) (h1 : am_H) (mc1 ms1 : Nat), z < 129 → E z as h r h1 mc1 ms1 → am_MetD sc l d D ty z as h r h1 mc1 ms1) {i : Instr} {hint : Nat} (hd : am_dkB y pc i = true) (hl : am_lkB y pc i a b hint tg = true) (hs : am_ex E sc y mc ms Φ P i a b kf kt tg pc lv st h k n) : am_Wt p l e R s m args below meth c y mc ms D ty A q0 h0 Qf (pc, lv, st, h, k, n) := by
  cases i with
  | iconst x => exact am_o_iconst C hP (of_decide_eq_true hd) rfl hs
  | bipush x => exact am_o_bipush C hP (of_decide_eq_true hd) rfl hs
  | sipush x => exact am_o_sipush C hP (of_decide_eq_true hd) rfl hs
  | lconst x => exact am_o_lconst C hP (of_decide_eq_true hd) rfl hs
  | aconst_null => exact am_o_aconst_null C hP (of_decide_eq_true hd) rfl hs
  | iload x => exact am_o_iload C hP (of_decide_eq_true hd) rfl hs
  | iload_n x => exact am_o_iload_n C hP (of_decide_eq_true hd) rfl hs
  | lload x => exact am_o_lload C hP (of_decide_eq_true hd) rfl hs
  | lload_n x => exact am_o_lload_n C hP (of_decide_eq_true hd) rfl hs
  | aload x => exact am_o_aload C hP (of_decide_eq_true hd) rfl hs
  | aload_n x => exact am_o_aload_n C hP (of_decide_eq_true hd) rfl hs
  | istore x => exact am_o_istore C hP (of_decide_eq_true hd) rfl hs
  | istore_n x => exact am_o_istore_n C hP (of_decide_eq_true hd) rfl hs
  | astore x => exact am_o_astore C hP (of_decide_eq_true hd) rfl hs
  | astore_n x => exact am_o_astore_n C hP (of_decide_eq_true hd) rfl hs
  | lstore x => exact am_o_lstore C hP (of_decide_eq_true hd) rfl hs
  | lstore_n x => exact am_o_lstore_n C hP (of_decide_eq_true hd) rfl hs
  | iinc x z => exact am_o_iinc C hP (of_decide_eq_true hd) rfl hs
  | iadd => exact am_o_iadd C hP (of_decide_eq_true hd) rfl hs
  | isub => exact am_o_isub C hP (of_decide_eq_true hd) rfl hs
  | imul => exact am_o_imul C hP (of_decide_eq_true hd) rfl hs
  | iand => exact am_o_iand C hP (of_decide_eq_true hd) rfl hs
  | ior => exact am_o_ior C hP (of_decide_eq_true hd) rfl hs
  | ixor => exact am_o_ixor C hP (of_decide_eq_true hd) rfl hs
  | ishl => exact am_o_ishl C hP (of_decide_eq_true hd) rfl hs
  | ishr => exact am_o_ishr C hP (of_decide_eq_true hd) rfl hs
  | iushr => exact am_o_iushr C hP (of_decide_eq_true hd) rfl hs
  | ladd => exact am_o_ladd C hP (of_decide_eq_true hd) rfl hs
  | lsub => exact am_o_lsub C hP (of_decide_eq_true hd) rfl hs
  | lmul => exact am_o_lmul C hP (of_decide_eq_true hd) rfl hs
  | lcmp => exact am_o_lcmp C hP (of_decide_eq_true hd) rfl hs
  | idiv => exact am_o_idiv C hP (of_decide_eq_true hd) rfl hs
  | irem => exact am_o_irem C hP (of_decide_eq_true hd) rfl hs
  | ldiv => exact am_o_ldiv C hP (of_decide_eq_true hd) rfl hs
  | lrem => exact am_o_lrem C hP (of_decide_eq_true hd) rfl hs
  | ineg => exact am_o_ineg C hP (of_decide_eq_true hd) rfl hs
  | i2l => exact am_o_i2l C hP (of_decide_eq_true hd) rfl hs
  | l2i => exact am_o_l2i C hP (of_decide_eq_true hd) rfl hs
  | i2b => exact am_o_i2b C hP (of_decide_eq_true hd) rfl hs
  | i2s => exact am_o_i2s C hP (of_decide_eq_true hd) rfl hs
  | i2c => exact am_o_i2c C hP (of_decide_eq_true hd) rfl hs
  | land => exact am_o_land C hP (of_decide_eq_true hd) rfl hs
  | lor => exact am_o_lor C hP (of_decide_eq_true hd) rfl hs
  | lxor => exact am_o_lxor C hP (of_decide_eq_true hd) rfl hs
  | lshl => exact am_o_lshl C hP (of_decide_eq_true hd) rfl hs
  | lshr => exact am_o_lshr C hP (of_decide_eq_true hd) rfl hs
  | lushr => exact am_o_lushr C hP (of_decide_eq_true hd) rfl hs
  | dup => exact am_o_dup C hP (of_decide_eq_true hd) rfl hs
  | dup2 => exact am_o_dup2 C hP (of_decide_eq_true hd) rfl hs
  | pop => exact am_o_pop C hP (of_decide_eq_true hd) rfl hs
  | iaload => exact am_o_iaload C hP (of_decide_eq_true hd) rfl hs
  | baload => exact am_o_baload C hP (of_decide_eq_true hd) rfl hs
  | laload => exact am_o_laload C hP (of_decide_eq_true hd) rfl hs
  | aaload => exact am_o_aaload C hP (of_decide_eq_true hd) rfl hs
  | iastore => exact am_o_iastore C hP (of_decide_eq_true hd) rfl hs
  | bastore => exact am_o_bastore C hP (of_decide_eq_true hd) rfl hs
  | lastore => exact am_o_lastore C hP (of_decide_eq_true hd) rfl hs
  | aastore => exact am_o_aastore C hP (of_decide_eq_true hd) rfl hs
  | arraylength => exact am_o_arraylength C hP (of_decide_eq_true hd) rfl hs
  | newarray t => exact am_o_newarray C hP (of_decide_eq_true hd) rfl hs
  | ireturn => exact am_o_ireturn C hP (of_decide_eq_true hd) rfl hs
  | lreturn => exact am_o_lreturn C hP (of_decide_eq_true hd) rfl hs
  | areturn => exact am_o_areturn C hP (of_decide_eq_true hd) rfl hs
  | return_ => exact am_o_return_ C hP (of_decide_eq_true hd) rfl hs
  | goto off => exact am_o_goto C hP (of_decide_eq_true hd) rfl (of_decide_eq_true hl) hs
  | ifCond cc off => exact am_o_ifCond C hP (of_decide_eq_true hd) rfl (of_decide_eq_true hl) hs
  | if_icmp cc off => exact am_o_if_icmp C hP (of_decide_eq_true hd) rfl (of_decide_eq_true hl) hs
  | ifnull off => exact am_o_ifnull C hP (of_decide_eq_true hd) rfl (of_decide_eq_true hl) hs
  | ifnonnull off => exact am_o_ifnonnull C hP (of_decide_eq_true hd) rfl (of_decide_eq_true hl) hs
  | tableswitch dflt lo hi offs =>
    have he : ∃ len, decode (am_code y) pc = .ok (.tableswitch dflt lo hi offs, len) := by
      simp only [am_dkB] at hd
      split at hd
      · rename_i j len e
        have e1 := of_decide_eq_true hd
        subst e1
        exact ⟨_, e⟩
      · cases hd
    obtain ⟨len, he⟩ := he
    refine am_o_tableswitch C hP he (fun dd ts e => ?_) hs
    subst e
    simp only [am_lkB, Bool.and_eq_true, Bool.or_eq_true, decide_eq_true_eq] at hl
    exact ⟨hl.1, hl.2.1, hl.2.2⟩
  | lookupswitch dflt ps =>
    have he : ∃ len, decode (am_code y) pc = .ok (.lookupswitch dflt ps, len) := by
      simp only [am_dkB] at hd
      split at hd
      · rename_i j len e
        have e1 := of_decide_eq_true hd
        subst e1
        exact ⟨_, e⟩
      · cases hd
    obtain ⟨len, he⟩ := he
    refine am_o_lookupswitch C hP he (fun dd ts e => ?_) hs
    subst e
    simp only [am_lkB, Bool.and_eq_true, Bool.or_eq_true, decide_eq_true_eq] at hl
    exact ⟨hl.1, hl.2.1, hl.2.2⟩
  | getfield idx =>
    simp only [am_lkB, Bool.and_eq_true, Bool.or_eq_true, decide_eq_true_eq] at hl
    exact am_o_getfield C hP (of_decide_eq_true hd) rfl (Nat.ble_eq.mp hl.1) (Nat.ble_eq.mp hl.2.1) (am_isw_mem hl.2.2) hs
  | putfield idx =>
    simp only [am_lkB, Bool.and_eq_true, Bool.or_eq_true, decide_eq_true_eq] at hl
    exact am_o_putfield C hP (of_decide_eq_true hd) rfl (Nat.ble_eq.mp hl.1.1) (Nat.ble_eq.mp hl.1.2.1) (am_isw_mem hl.1.2.2) hl.2 hs
  | getstatic idx =>
    simp only [am_lkB, Bool.and_eq_true, Bool.or_eq_true, decide_eq_true_eq] at hl
    rcases hl with hl | hl | hl
    · obtain ⟨rfl, -⟩ := hl
      exact False.elim hs
    · exact am_o_getstaticC C hP (of_decide_eq_true hd) rfl hl.1 (am_isw_mem hl.2) hs
    · exact am_o_getstaticO C hP (of_decide_eq_true hd) rfl hl.1 (am_isw_mem hl.2) hs
  | ldc idx =>
    match b, hl, hs with
    | 0, hl, hs => exact am_o_ldc C hP (of_decide_eq_true hd) rfl rfl (am_isw_mem hl) hs
    | b9 + 1, hl, hs =>
      simp only [am_lkB, Bool.and_eq_true, Bool.or_eq_true, decide_eq_true_eq] at hl
      exact am_o_ldcS C hP (of_decide_eq_true hd) rfl hl.1 hl.2 hs
  | ldc_w idx => exact am_o_ldc_w C hP (of_decide_eq_true hd) rfl (am_isw_mem hl) hs
  | ldc2_w idx =>
    simp only [am_lkB, Bool.and_eq_true, Bool.or_eq_true, decide_eq_true_eq] at hl
    refine am_o_ldc2_w C hP (of_decide_eq_true hd) rfl ?_ hs
    rcases hl with hl | hl
    · exact Or.inl ⟨hl.1, am_isw_mem hl.2⟩
    · exact Or.inr ⟨hl.1, am_isw_mem hl.2⟩
  | new idx =>
    simp only [am_lkB, Bool.and_eq_true, Bool.or_eq_true, decide_eq_true_eq] at hl
    exact am_o_new C hP (of_decide_eq_true hd) rfl (Nat.ble_eq.mp hl.1) ⟨am_isw_mem hl.2, am_ni (Nat.ble_eq.mp hl.1)⟩ hs
  | anewarray idx => exact am_o_anewarray C hP (of_decide_eq_true hd) rfl (am_isw_mem hl) hs
  | multianewarray idx dm =>
    simp only [am_lkB, Bool.and_eq_true, decide_eq_true_eq] at hl
    obtain ⟨rfl, hl⟩ := hl
    exact am_o_multianewarray C hP (of_decide_eq_true hd) rfl (am_isw_mem hl) hs
  | invokestatic idx =>
    cases ha : Nat.ble 9000 a with
    | false =>
      simp only [am_lkB, ha, Bool.and_eq_true, Bool.or_eq_true, decide_eq_true_eq] at hl
      refine am_o_invokestatic C hP hE (of_decide_eq_true hd) rfl ha (Nat.ble_eq.mp hl.1) (am_mok_all (Nat.ble_eq.mp hl.1)) ?_ hs
      rcases hl.2 with hl | hl
      · exact Or.inl ⟨hl.1, am_isw_mem hl.2⟩
      · exact Or.inr ⟨hl.1, "LockedToAnothers", am_isw_mem hl.2⟩
    | true =>
      simp only [am_lkB, ha, Bool.and_eq_true, Bool.or_eq_true, decide_eq_true_eq] at hl
      rcases hl with hl | hl | hl | hl | hl
      · exact am_o_prim_max C hP (of_decide_eq_true hd) rfl hl.1 (am_isw_mem hl.2) hs
      · exact am_o_prim_min C hP (of_decide_eq_true hd) rfl hl.1 (am_isw_mem hl.2) hs
      · exact am_o_prim_copy C hP (of_decide_eq_true hd) rfl hl.1 (am_isw_mem hl.2) hs
      · exact am_o_prim_check C hP (of_decide_eq_true hd) rfl hl.1 (am_isw_mem hl.2) hs
      · subst hl
        exact False.elim hs
  | invokevirtual idx =>
    cases ha : Nat.ble 9000 a with
    | false =>
      simp only [am_lkB, ha, Bool.and_eq_true, Bool.or_eq_true, decide_eq_true_eq] at hl
      refine am_o_invokevirtual C hP hE (of_decide_eq_true hd) rfl ha (Nat.ble_eq.mp hl.1) (am_mok_all (Nat.ble_eq.mp hl.1)) ?_ hs
      rcases hl.2 with (hl | hl) | hl
      · exact Or.inl ⟨hl.1, hl.2.1, am_isw_mem hl.2.2⟩
      · exact Or.inr (Or.inl ⟨hl.1, am_isw_mem hl.2⟩)
      · exact Or.inr (Or.inr ⟨hl.1, "LockedToAnothers", am_isw_mem hl.2⟩)
    | true =>
      unfold am_ex at hs
      dsimp only at hs
      rw [ha] at hs
      exact hs.elim
  | invokespecial idx =>
    cases ha : Nat.ble 9000 a with
    | false =>
      simp only [am_lkB, ha, Bool.and_eq_true, Bool.or_eq_true, decide_eq_true_eq] at hl
      refine am_o_invokespecial C hP hE (of_decide_eq_true hd) rfl ha (Nat.ble_eq.mp hl.1) (am_mok_all (Nat.ble_eq.mp hl.1)) ?_ hs
      rcases hl.2 with hl | hl
      · exact Or.inl ⟨hl.1, am_isw_mem hl.2⟩
      · exact Or.inr ⟨hl.1, "LockedToAnothers", am_isw_mem hl.2⟩
    | true =>
      simp only [am_lkB, ha, Bool.and_eq_true, Bool.or_eq_true, decide_eq_true_eq] at hl
      exact am_o_prim_init C hP (of_decide_eq_true hd) rfl hl.1 (am_isw_mem hl.2) hs
  | _ => exact False.elim hs
theorem am_simul (C : am_Cx p l e R s m args below meth c sc y d mc ms Φ D ty A q0 h0 Qf) (hE : ∀ (z : Nat) (as : List Value) (h : am_H) (r : Option Value) (h1 : am_H) (mc1 ms1 : Nat), z < 129 → E z as h r h1 mc1 ms1 → am_MetD sc l d D ty z as h r h1 mc1 ms1) (x : am_S) (hg : am_go E sc y mc ms Φ x) : am_Wt p l e R s m args below meth c y mc ms D ty A q0 h0 Qf x := by
  refine hg _ (fun x P hP hs => ?_)
  obtain ⟨pc, lv, st, h, k, n⟩ := x
  unfold am_step at hs
  split at hs
  · exact hs.elim
  · rename_i e he
    have ok := (am_tb_ok he).1
    unfold am_okB at ok
    simp only [Bool.and_eq_true] at ok
    exact am_exec C hP hE ok.1 ok.2 hs
end OPS
theorem am_args_rl {q : Nat → Nat} : ∀ (as : List Value) (i : Nat), lv_args i (as.map (am_rv q)) = am_rl q (lv_args i as)
  | [], _ => rfl
  | v :: vs, i => by
    show (i, am_rv q v) :: lv_args (if (am_rv q v).category = 2 then i + 2 else i + 1) (vs.map (am_rv q)) = (i, am_rv q v) :: am_rl q (lv_args (if v.category = 2 then i + 2 else i + 1) vs)
    rw [am_rv_cat, am_args_rl vs]
theorem am_args_len {q : Nat → Nat} : ∀ (as : List Value), (lg_sl (as.map (am_rv q))).length = (lg_sl as).length
  | [] => rfl
  | v :: vs => by
    have ih := am_args_len (q := q) vs
    unfold lg_sl at ih ⊢
    rw [List.map_cons, List.flatMap_cons, List.flatMap_cons, List.length_append, List.length_append, ih, am_rv_cat]
    by_cases hc : v.category = 2
    · rw [if_pos hc, if_pos hc]
      rfl
    · rw [if_neg hc, if_neg hc]
      rfl
/-- a method of the abstract machine, as a contract of the machine -/
theorem am_met {sc : Option (Nat × (Nat → Int32))} {l : Launch} {D : va_G} {ty : Nat → ClassId} : ∀ (d y : Nat) (as : List Value) (h : am_H) (r : Option Value) (h1 : am_H) (mc ms : Nat), y < 129 → am_run sc d y as h r h1 mc ms → am_MetD sc l d D ty y as h r h1 mc ms
  | 0, _, _, _, _, _, _, _, _, hr => hr.elim
  | d + 1, y, as, h, r, h1, mc, ms, hy, hr => by
    obtain ⟨hn, hg⟩ := hr
    intro q sz hle
    have hz := am_mok_all hy
    refine Met.ofW (cc := am_code y) (maxL := am_ml y) (ret := am_ret y) hz.2.2.2.2.2.2.2.2.1 rfl ?_
    intro p e s m args below meth c s₁ B hml hv
    obtain ⟨rfl, hsz, hP, hK, hD0, hX⟩ := hv
    subst hsz
    have hD := hD0.self (sz := s.heap.size)
    have hl := lv_entry (as.map (am_rv q)) (n := am_ml y) (by rw [am_args_len]; exact Nat.ble_eq.mp hn)
    rw [lg_entry_eq]
    rw [am_args_rl] at hl
    have hts := atoms_spec (ws := am_ws y) B.pre
    refine am_simul (E := am_fr (am_run sc d)) (sc := sc) (d := d) (Φ := fun r2 h2 => r2 = r ∧ h2 = h1) (q0 := q) (h0 := h) ⟨B.exec, B.bytes, hml, ⟨Nat.le_refl _, Nat.le_refl _, Nat.le_refl _, Nat.le_refl _⟩, findClass_of_methodNamed B.named, trivial, fun hin => (name_of_methodNamed B.named B.method).1.trans hin, fun w hw => hts w (List.mem_cons_of_mem _ hw), hK, fun x hx => Or.inr hx, hX, ?_⟩ (am_frame (fun z as h r h1 mc1 ms1 hz9 hr9 => am_met d z as h r h1 mc1 ms1 hz9 hr9)) (0, lv_args 0 as, [], h, 0, 0) hg q s.heap [] _ (fun _ _ => rfl) (Nat.le_refl _) hP hD va_S.rf hl (Nat.zero_le _) (Nat.zero_le _)
    rintro i r2 h2 q2 H locs ls pc k n he hd ⟨rfl, rfl⟩ a1 a2 a3 a4 a5 a6 a7
    have hq : ∀ (t : State), t.heap = H → s.WarmedH t.vm → am_Q D ty q h r2 h2 s.heap.size (as.map (am_rv q)).toArray s (.returned (r2.map (am_rv q2))) t := fun t e9 hW => ⟨⟨q2, a1, rfl, by rw [e9]; exact a3, va_K.moved hW.alike hK, a4⟩, a5.F e9⟩
    refine W.widen a6 a7 ?_
    unfold am_end at he
    split at he
    · obtain ⟨t, h8, h9⟩ := he
      exact W.zret B.exec B.bytes (B.returns.trans h8) h9 hq a5.2.2 hd B.notSynchronized
    · exact W.lret B.exec B.bytes (B.returns.trans he) hq a5.2.2 hd B.notSynchronized
    · obtain ⟨t, h8, h9⟩ := he
      refine W.aret B.exec B.bytes (B.returns.trans h8) h9 (Or.inr ⟨_, rfl⟩) hq a5.2.2 hd B.notSynchronized
    · exact W.vret B.exec B.bytes (B.returns.trans he) hq a5.2.2 hd B.notSynchronized
    · exact he.elim
end
section
/-! ===== the law: out of its run on the abstract machine (the skeleton's rows first) ===== -/
def R_law : String := "LockedToAnothersLaw"
def lw_P (b : Addr) (xs : List Int32) (args : Array Value) (s : State) : Prop := args = #[.ref b] ∧ s.IntsAt b xs ∧ xs.length ≤ 260 ∧ (Jvm.Cond.and given_1 narrow_1).before args s = true
def lw_Q (_ : Array Value) (s : State) (o : Outcome) (t : State) : Prop := o = .returned (some (.int 1)) ∧ Framed s o t [] 600000 7302250
def lw_Z (below : List Frame) (a : Array Value) (s : State) : State → Prop := fun t => ∃ o, t.status = .running ∧ Ended t below o ∧ lw_Q a s o t
/-- the law's own end, with 1 on the stack, nothing written that was there before, its room as the claim has it -/
theorem lw_ret {p : Program} {l : Launch} {e : Env} {s : State} {m : MethodId} {below : List Frame} {meth : Method} {c : Code} {b : Nat} (hx : p.tables.exec = Jvm.exec) (hb : c.code = code) (hr : meth.sig.returnType = ret) (hlocks : meth.locks = false) {pc : Nat} {H : Heap} {ls : Array Slot} (hdg : decode code pc = .ok (.ireturn, 1)) : W p l e room_1 s m #[Value.ref b] below meth c H [] 600000 7302250 (lw_Z below #[Value.ref b] s) (F0 m pc ls [.int 1]) := by
  intro T hT X
  obtain ⟨fs, hret, hrun, hended, hW, hframe⟩ := X.leave (v := some (.int 1)) (hlocks := hlocks) (fun h => by rw [hr] at h; cases h)
  have hmeth' : T.vm.method? m = some meth := X.method'
  refine ⟨T.setFrames fs, ?_, .returned (some (.int 1)), hrun, hended, rfl, ⟨_, rfl⟩, hW, hframe⟩
  jvm_step X.here [X.here.top, hx, hb, hdg, hmeth', hr, ret, narrow_b1]
  (try refine ⟨rfl, ?_⟩); (try refine ⟨rfl, ?_⟩)
  first | (intro acts; rw [hret _ acts rfl rfl rfl]) | rw [hret _ _ rfl rfl rfl]
  exact Steps.refl _
/-- what holds at the law's entry: the machine, the code, the tables' words (any of lw_tbl by 'hts w (by decide +kernel)'), the script of L ints xs at the cell b, what the Statement gives of the start (any of its parts by flat_of_before) -/
def lw_At (p : Program) (s : State) (m : MethodId) (meth : Method) (c : Code) (b L : Nat) (xs : Nat → Int32) : Prop :=
  p.tables.exec = Jvm.exec ∧ c.code = code ∧ meth.sig.returnType = ret ∧ c.maxLocals = 11 ∧ s.vm.findClass R_law = some m.cls ∧ (∀ w ∈ lw_tbl, w.before #[Value.ref b] s = true) ∧ va_X b L xs s s.heap ∧ b < s.heap.size ∧ meth.locks = false ∧ (Jvm.Cond.and given_1 narrow_1).before #[Value.ref b] s = true

theorem am_wS : Jvm.Cond.arrayOver (.object RX6) ∈ wt_tbl := List.mem_of_getElem? (i := 381) (by decide +kernel)
theorem am_wG : Jvm.Cond.arrayOver (.array .int) ∈ wt_tbl := List.mem_of_getElem? (i := 155) (by decide +kernel)
/-- the law runs, on the abstract machine, on every script -/
def am_law : Prop := ∀ (L : Nat) (xs : Nat → Int32), L ≤ 260 → am_go (am_fr (am_run (some (L, xs)) 1000)) (some (L, xs)) 129 600000 7302250 (fun r _ => r = some (.int 1)) (0, [(0, .ref am_pL)], [], [], 0, 0)
theorem am_tyI {args : Array Value} {s : State} {t : FieldType} (h : (Jvm.Cond.arrayClass t).before args s = true) : ∃ cA, ArrOfT s cA t ∧ s.vm.findClass ("[" ++ t.toString) = some cA := by
  obtain ⟨c, k, comp, h1, h2, h3⟩ := Cond.arrayClass_spec h
  exact ⟨c, fun n z => ⟨fun k h => (by cases h), k, h2, comp, h3⟩, h1⟩
theorem am_tyO {args : Array Value} {s : State} {C : String} (h : (Jvm.Cond.arrayOver (.object C)).before args s = true) : ∃ cA, ArrOfT s cA (.object C) ∧ va_RA s cA (.object C) := by
  obtain ⟨comp, c, k, h1, h2, h3, h4, h5⟩ := Cond.arrayOver_spec h
  exact ⟨c, fun n z => ⟨fun k h => (by cases h), k, h3, comp, h4⟩, k, comp, h3, h4, h1, h5⟩
theorem am_tyG {args : Array Value} {s : State} {t : FieldType} (h : (Jvm.Cond.arrayOver (.array t)).before args s = true) : ∃ cA, ArrOfT s cA (.array t) ∧ s.vm.findClass ("[" ++ (FieldType.array t).toString) = some cA := by
  obtain ⟨comp, c, k, h1, h2, h3, h4, h5⟩ := Jvm.Stand.arrayOver_specB h
  exact ⟨c, fun n z => ⟨fun k h => (by cases h), k, h3, comp, h4⟩, h5⟩
theorem am_cl_kn {s : State} {args : Array Value} (hts : ∀ w ∈ wt_tbl, w.before args s = true) : ∃ (dC : Nat → ClassId) (dI : Nat → Nat → Nat), ∀ (k : Nat) (q : vw_C), vwCl[k]? = some q → u_Kn s q.1 q.2.1 q.2.2 (dC k) (dI k) := by
  have h : ∀ k : Nat, ∃ (c : ClassId) (i : Nat → Nat), ∀ q : vw_C, vwCl[k]? = some q → u_Kn s q.1 q.2.1 q.2.2 c i := by
    intro k
    by_cases hk : k < 9
    · obtain ⟨c, i, h⟩ := u_known (C := am_R k) (T := am_T k) (N := am_Nf k) (n := am_Nf k) hts (am_cl_in hk) (hts _ (am_ni hk).1)
      refine ⟨c, i, fun q hq => ?_⟩
      rw [am_cl_get hk] at hq
      cases hq
      exact h
    · refine ⟨0, fun _ => 0, fun q hq => ?_⟩
      have h9 : vwCl.length = 9 := rfl
      rw [List.getElem?_eq_none (by omega)] at hq
      cases hq
  exact ⟨fun k => (h k).choose, fun k => (h k).choose_spec.choose, fun k => (h k).choose_spec.choose_spec⟩
def am_tm (i : Nat) : Term := .string (am_so i) (am_si i)
theorem am_r7 {P : Nat → Prop} (h0 : P 0) (h1 : P 1) (h2 : P 2) (h3 : P 3) (h4 : P 4) (h5 : P 5) (h6 : P 6) : ∀ i : Nat, i < 7 → P i := fun i hi => by
  match i, hi with
  | 0, _ => exact h0
  | 1, _ => exact h1
  | 2, _ => exact h2
  | 3, _ => exact h3
  | 4, _ => exact h4
  | 5, _ => exact h5
  | 6, _ => exact h6
/-- the words of the start, flat -/
def am_fl : List Jvm.Cond := flatC (Jvm.Cond.and given_1 narrow_1)
theorem am_flm {w : Jvm.Cond} (k : Nat) (h : am_fl[k]? = some w) : w ∈ flatC (Jvm.Cond.and given_1 narrow_1) := List.mem_of_getElem? h
def am_elf (i j : Nat) : Jvm.Cond := Jvm.Cond.eq (.elem (.field (am_tm i) "java/lang/String" "value" "[B") (.int (Int32.ofNat j))) (.int ((am_byt.getD i []).getD j 0))
set_option maxRecDepth 100000 in
theorem am_elr : (List.range 100).map (fun j => Jvm.Cond.eq (.elem (.static "java/lang/Integer" "DigitOnes" "[B") (.int (Int32.ofNat j))) (.int (am_ones j))) = (am_fl.drop 12).take 100 := by decide +kernel
theorem am_elo (j : Nat) (hj : j < 100) : Jvm.Cond.eq (.elem (.static "java/lang/Integer" "DigitOnes" "[B") (.int (Int32.ofNat j))) (.int (am_ones j)) ∈ flatC (Jvm.Cond.and given_1 narrow_1) := va_run am_elr j hj
theorem am_laysO : Jvm.Cond.laysStatic "java/lang/Integer" "DigitOnes" "[B" ∈ wt_tbl := List.mem_of_getElem? (i := 794) (by decide +kernel)
theorem am_iniO : Jvm.Cond.initialized "java/lang/Integer" ∈ wt_tbl := List.mem_of_getElem? (i := 34) (by decide +kernel)
set_option maxHeartbeats 4000000 in
theorem am_ones_of {s : State} {args : Array Value} {A : Nat → Prop} (hts : ∀ w ∈ wt_tbl, w.before args s = true) (hgv : (Jvm.Cond.and given_1 narrow_1).before args s = true) (hA : ∀ a : Nat, a < s.heap.size → ¬ A a) : ∃ t : Nat, va_Z "java/lang/Integer" "DigitOnes" "[B" (.ref t) A s s.heap ∧ va_T .byte t 100 (fun j => .int (am_ones j)) A s s.heap := by
  have hs := flat_of_before _ hgv
  have h1 : (Jvm.Cond.arrayOf (.static "java/lang/Integer" "DigitOnes" "[B") .byte).before args s = true := hs _ (am_flm 10 rfl)
  have h2 : (Jvm.Cond.eq (.length (.static "java/lang/Integer" "DigitOnes" "[B")) (.int 100)).before args s = true := hs _ (am_flm 11 rfl)
  obtain ⟨t, ht, hT⟩ := va_Tof (N := 100) (f := fun j => .int (am_ones j)) (by decide) h1 (va_eqt h2) (fun j hj => va_eqt (hs _ (am_elo j hj))) hA
  exact ⟨t, va_Zof (hts _ am_laysO) (hts _ am_iniO) ht hA, hT⟩
set_option maxRecDepth 100000 in
theorem am_elr0 : (List.range 40).map (am_elf 0) = (am_fl.drop 219).take 40 := by decide +kernel
set_option maxRecDepth 100000 in
theorem am_elr1 : (List.range 8).map (am_elf 1) = (am_fl.drop 327).take 8 := by decide +kernel
set_option maxRecDepth 100000 in
theorem am_elr2 : (List.range 59).map (am_elf 2) = (am_fl.drop 263).take 59 := by decide +kernel
set_option maxRecDepth 100000 in
theorem am_elr3 : (List.range 16).map (am_elf 3) = (am_fl.drop 341).take 16 := by decide +kernel
set_option maxRecDepth 100000 in
theorem am_elr4 : (List.range 16).map (am_elf 4) = (am_fl.drop 364).take 16 := by decide +kernel
set_option maxRecDepth 100000 in
theorem am_elr5 : (List.range 23).map (am_elf 5) = (am_fl.drop 388).take 23 := by decide +kernel
set_option maxRecDepth 100000 in
theorem am_elr6 : (List.range 1).map (am_elf 6) = (am_fl.drop 420).take 1 := by decide +kernel
theorem am_elm : ∀ i : Nat, i < 7 → ∀ j : Nat, j < am_ln.getD i 0 → am_elf i j ∈ flatC (Jvm.Cond.and given_1 narrow_1) := am_r7 (fun j hj => va_run am_elr0 j hj) (fun j hj => va_run am_elr1 j hj) (fun j hj => va_run am_elr2 j hj) (fun j hj => va_run am_elr3 j hj) (fun j hj => va_run am_elr4 j hj) (fun j hj => va_run am_elr5 j hj) (fun j hj => va_run am_elr6 j hj)
set_option maxRecDepth 100000 in
theorem am_elq0 : Jvm.Cond.exactly (am_tm 0) "java/lang/String" ∈ flatC (Jvm.Cond.and given_1 narrow_1) ∧ Jvm.Cond.eq (.field (am_tm 0) "java/lang/String" "coder" "B") (.int 0) ∈ flatC (Jvm.Cond.and given_1 narrow_1) ∧ Jvm.Cond.arrayOf (.field (am_tm 0) "java/lang/String" "value" "[B") .byte ∈ flatC (Jvm.Cond.and given_1 narrow_1) ∧ Jvm.Cond.eq (.length (.field (am_tm 0) "java/lang/String" "value" "[B")) (.int (Int32.ofNat (am_ln.getD 0 0))) ∈ flatC (Jvm.Cond.and given_1 narrow_1) := ⟨am_flm 215 (by decide +kernel), am_flm 216 (by decide +kernel), am_flm 217 (by decide +kernel), am_flm 218 (by decide +kernel)⟩
set_option maxRecDepth 100000 in
theorem am_elq1 : Jvm.Cond.exactly (am_tm 1) "java/lang/String" ∈ flatC (Jvm.Cond.and given_1 narrow_1) ∧ Jvm.Cond.eq (.field (am_tm 1) "java/lang/String" "coder" "B") (.int 0) ∈ flatC (Jvm.Cond.and given_1 narrow_1) ∧ Jvm.Cond.arrayOf (.field (am_tm 1) "java/lang/String" "value" "[B") .byte ∈ flatC (Jvm.Cond.and given_1 narrow_1) ∧ Jvm.Cond.eq (.length (.field (am_tm 1) "java/lang/String" "value" "[B")) (.int (Int32.ofNat (am_ln.getD 1 0))) ∈ flatC (Jvm.Cond.and given_1 narrow_1) := ⟨am_flm 323 (by decide +kernel), am_flm 324 (by decide +kernel), am_flm 325 (by decide +kernel), am_flm 326 (by decide +kernel)⟩
set_option maxRecDepth 100000 in
theorem am_elq2 : Jvm.Cond.exactly (am_tm 2) "java/lang/String" ∈ flatC (Jvm.Cond.and given_1 narrow_1) ∧ Jvm.Cond.eq (.field (am_tm 2) "java/lang/String" "coder" "B") (.int 0) ∈ flatC (Jvm.Cond.and given_1 narrow_1) ∧ Jvm.Cond.arrayOf (.field (am_tm 2) "java/lang/String" "value" "[B") .byte ∈ flatC (Jvm.Cond.and given_1 narrow_1) ∧ Jvm.Cond.eq (.length (.field (am_tm 2) "java/lang/String" "value" "[B")) (.int (Int32.ofNat (am_ln.getD 2 0))) ∈ flatC (Jvm.Cond.and given_1 narrow_1) := ⟨am_flm 259 (by decide +kernel), am_flm 260 (by decide +kernel), am_flm 261 (by decide +kernel), am_flm 262 (by decide +kernel)⟩
set_option maxRecDepth 100000 in
theorem am_elq3 : Jvm.Cond.exactly (am_tm 3) "java/lang/String" ∈ flatC (Jvm.Cond.and given_1 narrow_1) ∧ Jvm.Cond.eq (.field (am_tm 3) "java/lang/String" "coder" "B") (.int 0) ∈ flatC (Jvm.Cond.and given_1 narrow_1) ∧ Jvm.Cond.arrayOf (.field (am_tm 3) "java/lang/String" "value" "[B") .byte ∈ flatC (Jvm.Cond.and given_1 narrow_1) ∧ Jvm.Cond.eq (.length (.field (am_tm 3) "java/lang/String" "value" "[B")) (.int (Int32.ofNat (am_ln.getD 3 0))) ∈ flatC (Jvm.Cond.and given_1 narrow_1) := ⟨am_flm 337 (by decide +kernel), am_flm 338 (by decide +kernel), am_flm 339 (by decide +kernel), am_flm 340 (by decide +kernel)⟩
set_option maxRecDepth 100000 in
theorem am_elq4 : Jvm.Cond.exactly (am_tm 4) "java/lang/String" ∈ flatC (Jvm.Cond.and given_1 narrow_1) ∧ Jvm.Cond.eq (.field (am_tm 4) "java/lang/String" "coder" "B") (.int 0) ∈ flatC (Jvm.Cond.and given_1 narrow_1) ∧ Jvm.Cond.arrayOf (.field (am_tm 4) "java/lang/String" "value" "[B") .byte ∈ flatC (Jvm.Cond.and given_1 narrow_1) ∧ Jvm.Cond.eq (.length (.field (am_tm 4) "java/lang/String" "value" "[B")) (.int (Int32.ofNat (am_ln.getD 4 0))) ∈ flatC (Jvm.Cond.and given_1 narrow_1) := ⟨am_flm 360 (by decide +kernel), am_flm 361 (by decide +kernel), am_flm 362 (by decide +kernel), am_flm 363 (by decide +kernel)⟩
set_option maxRecDepth 100000 in
theorem am_elq5 : Jvm.Cond.exactly (am_tm 5) "java/lang/String" ∈ flatC (Jvm.Cond.and given_1 narrow_1) ∧ Jvm.Cond.eq (.field (am_tm 5) "java/lang/String" "coder" "B") (.int 0) ∈ flatC (Jvm.Cond.and given_1 narrow_1) ∧ Jvm.Cond.arrayOf (.field (am_tm 5) "java/lang/String" "value" "[B") .byte ∈ flatC (Jvm.Cond.and given_1 narrow_1) ∧ Jvm.Cond.eq (.length (.field (am_tm 5) "java/lang/String" "value" "[B")) (.int (Int32.ofNat (am_ln.getD 5 0))) ∈ flatC (Jvm.Cond.and given_1 narrow_1) := ⟨am_flm 384 (by decide +kernel), am_flm 385 (by decide +kernel), am_flm 386 (by decide +kernel), am_flm 387 (by decide +kernel)⟩
set_option maxRecDepth 100000 in
theorem am_elq6 : Jvm.Cond.exactly (am_tm 6) "java/lang/String" ∈ flatC (Jvm.Cond.and given_1 narrow_1) ∧ Jvm.Cond.eq (.field (am_tm 6) "java/lang/String" "coder" "B") (.int 0) ∈ flatC (Jvm.Cond.and given_1 narrow_1) ∧ Jvm.Cond.arrayOf (.field (am_tm 6) "java/lang/String" "value" "[B") .byte ∈ flatC (Jvm.Cond.and given_1 narrow_1) ∧ Jvm.Cond.eq (.length (.field (am_tm 6) "java/lang/String" "value" "[B")) (.int (Int32.ofNat (am_ln.getD 6 0))) ∈ flatC (Jvm.Cond.and given_1 narrow_1) := ⟨am_flm 416 (by decide +kernel), am_flm 417 (by decide +kernel), am_flm 418 (by decide +kernel), am_flm 419 (by decide +kernel)⟩
theorem am_elq : ∀ i : Nat, i < 7 → Jvm.Cond.exactly (am_tm i) "java/lang/String" ∈ flatC (Jvm.Cond.and given_1 narrow_1) ∧ Jvm.Cond.eq (.field (am_tm i) "java/lang/String" "coder" "B") (.int 0) ∈ flatC (Jvm.Cond.and given_1 narrow_1) ∧ Jvm.Cond.arrayOf (.field (am_tm i) "java/lang/String" "value" "[B") .byte ∈ flatC (Jvm.Cond.and given_1 narrow_1) ∧ Jvm.Cond.eq (.length (.field (am_tm i) "java/lang/String" "value" "[B")) (.int (Int32.ofNat (am_ln.getD i 0))) ∈ flatC (Jvm.Cond.and given_1 narrow_1) := am_r7 am_elq0 am_elq1 am_elq2 am_elq3 am_elq4 am_elq5 am_elq6
set_option maxRecDepth 100000 in
theorem am_eln_0_2 : Jvm.Cond.not (Jvm.Cond.eq (am_tm 0) (am_tm 2)) ∈ flatC (Jvm.Cond.and given_1 narrow_1) := am_flm 322 (by decide +kernel)
set_option maxRecDepth 100000 in
theorem am_eln_0_1 : Jvm.Cond.not (Jvm.Cond.eq (am_tm 0) (am_tm 1)) ∈ flatC (Jvm.Cond.and given_1 narrow_1) := am_flm 335 (by decide +kernel)
set_option maxRecDepth 100000 in
theorem am_eln_2_1 : Jvm.Cond.not (Jvm.Cond.eq (am_tm 2) (am_tm 1)) ∈ flatC (Jvm.Cond.and given_1 narrow_1) := am_flm 336 (by decide +kernel)
set_option maxRecDepth 100000 in
theorem am_eln_0_3 : Jvm.Cond.not (Jvm.Cond.eq (am_tm 0) (am_tm 3)) ∈ flatC (Jvm.Cond.and given_1 narrow_1) := am_flm 357 (by decide +kernel)
set_option maxRecDepth 100000 in
theorem am_eln_2_3 : Jvm.Cond.not (Jvm.Cond.eq (am_tm 2) (am_tm 3)) ∈ flatC (Jvm.Cond.and given_1 narrow_1) := am_flm 358 (by decide +kernel)
set_option maxRecDepth 100000 in
theorem am_eln_1_3 : Jvm.Cond.not (Jvm.Cond.eq (am_tm 1) (am_tm 3)) ∈ flatC (Jvm.Cond.and given_1 narrow_1) := am_flm 359 (by decide +kernel)
set_option maxRecDepth 100000 in
theorem am_eln_0_4 : Jvm.Cond.not (Jvm.Cond.eq (am_tm 0) (am_tm 4)) ∈ flatC (Jvm.Cond.and given_1 narrow_1) := am_flm 380 (by decide +kernel)
set_option maxRecDepth 100000 in
theorem am_eln_2_4 : Jvm.Cond.not (Jvm.Cond.eq (am_tm 2) (am_tm 4)) ∈ flatC (Jvm.Cond.and given_1 narrow_1) := am_flm 381 (by decide +kernel)
set_option maxRecDepth 100000 in
theorem am_eln_1_4 : Jvm.Cond.not (Jvm.Cond.eq (am_tm 1) (am_tm 4)) ∈ flatC (Jvm.Cond.and given_1 narrow_1) := am_flm 382 (by decide +kernel)
set_option maxRecDepth 100000 in
theorem am_eln_3_4 : Jvm.Cond.not (Jvm.Cond.eq (am_tm 3) (am_tm 4)) ∈ flatC (Jvm.Cond.and given_1 narrow_1) := am_flm 383 (by decide +kernel)
set_option maxRecDepth 100000 in
theorem am_eln_0_5 : Jvm.Cond.not (Jvm.Cond.eq (am_tm 0) (am_tm 5)) ∈ flatC (Jvm.Cond.and given_1 narrow_1) := am_flm 411 (by decide +kernel)
set_option maxRecDepth 100000 in
theorem am_eln_2_5 : Jvm.Cond.not (Jvm.Cond.eq (am_tm 2) (am_tm 5)) ∈ flatC (Jvm.Cond.and given_1 narrow_1) := am_flm 412 (by decide +kernel)
set_option maxRecDepth 100000 in
theorem am_eln_1_5 : Jvm.Cond.not (Jvm.Cond.eq (am_tm 1) (am_tm 5)) ∈ flatC (Jvm.Cond.and given_1 narrow_1) := am_flm 413 (by decide +kernel)
set_option maxRecDepth 100000 in
theorem am_eln_3_5 : Jvm.Cond.not (Jvm.Cond.eq (am_tm 3) (am_tm 5)) ∈ flatC (Jvm.Cond.and given_1 narrow_1) := am_flm 414 (by decide +kernel)
set_option maxRecDepth 100000 in
theorem am_eln_4_5 : Jvm.Cond.not (Jvm.Cond.eq (am_tm 4) (am_tm 5)) ∈ flatC (Jvm.Cond.and given_1 narrow_1) := am_flm 415 (by decide +kernel)
set_option maxRecDepth 100000 in
theorem am_eln_0_6 : Jvm.Cond.not (Jvm.Cond.eq (am_tm 0) (am_tm 6)) ∈ flatC (Jvm.Cond.and given_1 narrow_1) := am_flm 421 (by decide +kernel)
set_option maxRecDepth 100000 in
theorem am_eln_2_6 : Jvm.Cond.not (Jvm.Cond.eq (am_tm 2) (am_tm 6)) ∈ flatC (Jvm.Cond.and given_1 narrow_1) := am_flm 422 (by decide +kernel)
set_option maxRecDepth 100000 in
theorem am_eln_1_6 : Jvm.Cond.not (Jvm.Cond.eq (am_tm 1) (am_tm 6)) ∈ flatC (Jvm.Cond.and given_1 narrow_1) := am_flm 423 (by decide +kernel)
set_option maxRecDepth 100000 in
theorem am_eln_3_6 : Jvm.Cond.not (Jvm.Cond.eq (am_tm 3) (am_tm 6)) ∈ flatC (Jvm.Cond.and given_1 narrow_1) := am_flm 424 (by decide +kernel)
set_option maxRecDepth 100000 in
theorem am_eln_4_6 : Jvm.Cond.not (Jvm.Cond.eq (am_tm 4) (am_tm 6)) ∈ flatC (Jvm.Cond.and given_1 narrow_1) := am_flm 425 (by decide +kernel)
set_option maxRecDepth 100000 in
theorem am_eln_5_6 : Jvm.Cond.not (Jvm.Cond.eq (am_tm 5) (am_tm 6)) ∈ flatC (Jvm.Cond.and given_1 narrow_1) := am_flm 426 (by decide +kernel)
theorem am_eln : ∀ i j : Nat, i < 7 → j < 7 → ¬ i = j → Jvm.Cond.not (Jvm.Cond.eq (am_tm i) (am_tm j)) ∈ flatC (Jvm.Cond.and given_1 narrow_1) ∨ Jvm.Cond.not (Jvm.Cond.eq (am_tm j) (am_tm i)) ∈ flatC (Jvm.Cond.and given_1 narrow_1) := by
  intro i j hi hj hij
  match i, j, hi, hj with
  | 0, 0, _, _ => exact absurd rfl hij
  | 0, 1, _, _ => exact Or.inl am_eln_0_1
  | 0, 2, _, _ => exact Or.inl am_eln_0_2
  | 0, 3, _, _ => exact Or.inl am_eln_0_3
  | 0, 4, _, _ => exact Or.inl am_eln_0_4
  | 0, 5, _, _ => exact Or.inl am_eln_0_5
  | 0, 6, _, _ => exact Or.inl am_eln_0_6
  | 1, 0, _, _ => exact Or.inr am_eln_0_1
  | 1, 1, _, _ => exact absurd rfl hij
  | 1, 2, _, _ => exact Or.inr am_eln_2_1
  | 1, 3, _, _ => exact Or.inl am_eln_1_3
  | 1, 4, _, _ => exact Or.inl am_eln_1_4
  | 1, 5, _, _ => exact Or.inl am_eln_1_5
  | 1, 6, _, _ => exact Or.inl am_eln_1_6
  | 2, 0, _, _ => exact Or.inr am_eln_0_2
  | 2, 1, _, _ => exact Or.inl am_eln_2_1
  | 2, 2, _, _ => exact absurd rfl hij
  | 2, 3, _, _ => exact Or.inl am_eln_2_3
  | 2, 4, _, _ => exact Or.inl am_eln_2_4
  | 2, 5, _, _ => exact Or.inl am_eln_2_5
  | 2, 6, _, _ => exact Or.inl am_eln_2_6
  | 3, 0, _, _ => exact Or.inr am_eln_0_3
  | 3, 1, _, _ => exact Or.inr am_eln_1_3
  | 3, 2, _, _ => exact Or.inr am_eln_2_3
  | 3, 3, _, _ => exact absurd rfl hij
  | 3, 4, _, _ => exact Or.inl am_eln_3_4
  | 3, 5, _, _ => exact Or.inl am_eln_3_5
  | 3, 6, _, _ => exact Or.inl am_eln_3_6
  | 4, 0, _, _ => exact Or.inr am_eln_0_4
  | 4, 1, _, _ => exact Or.inr am_eln_1_4
  | 4, 2, _, _ => exact Or.inr am_eln_2_4
  | 4, 3, _, _ => exact Or.inr am_eln_3_4
  | 4, 4, _, _ => exact absurd rfl hij
  | 4, 5, _, _ => exact Or.inl am_eln_4_5
  | 4, 6, _, _ => exact Or.inl am_eln_4_6
  | 5, 0, _, _ => exact Or.inr am_eln_0_5
  | 5, 1, _, _ => exact Or.inr am_eln_1_5
  | 5, 2, _, _ => exact Or.inr am_eln_2_5
  | 5, 3, _, _ => exact Or.inr am_eln_3_5
  | 5, 4, _, _ => exact Or.inr am_eln_4_5
  | 5, 5, _, _ => exact absurd rfl hij
  | 5, 6, _, _ => exact Or.inl am_eln_5_6
  | 6, 0, _, _ => exact Or.inr am_eln_0_6
  | 6, 1, _, _ => exact Or.inr am_eln_1_6
  | 6, 2, _, _ => exact Or.inr am_eln_2_6
  | 6, 3, _, _ => exact Or.inr am_eln_3_6
  | 6, 4, _, _ => exact Or.inr am_eln_4_6
  | 6, 5, _, _ => exact Or.inr am_eln_5_6
  | 6, 6, _, _ => exact absurd rfl hij
theorem am_laysC : Jvm.Cond.laysStatic "java/lang/String" "COMPACT_STRINGS" "Z" ∈ wt_tbl := List.mem_of_getElem? (i := 166) (by decide +kernel)
theorem am_laysF : Jvm.Cond.laysStatic "jdk/internal/util/Preconditions" "SIOOBE_FORMATTER" "Ljava/util/function/BiFunction;" ∈ wt_tbl := List.mem_of_getElem? (i := 182) (by decide +kernel)
theorem am_wSR0 : Jvm.Cond.stringRef (am_so 0) (am_si 0) (am_stx 0) ∈ wt_tbl := List.mem_of_getElem? (i := 156) (by decide +kernel)
theorem am_wSR1 : Jvm.Cond.stringRef (am_so 1) (am_si 1) (am_stx 1) ∈ wt_tbl := List.mem_of_getElem? (i := 235) (by decide +kernel)
theorem am_wSR2 : Jvm.Cond.stringRef (am_so 2) (am_si 2) (am_stx 2) ∈ wt_tbl := List.mem_of_getElem? (i := 228) (by decide +kernel)
theorem am_wSR3 : Jvm.Cond.stringRef (am_so 3) (am_si 3) (am_stx 3) ∈ wt_tbl := List.mem_of_getElem? (i := 691) (by decide +kernel)
theorem am_wSR4 : Jvm.Cond.stringRef (am_so 4) (am_si 4) (am_stx 4) ∈ wt_tbl := List.mem_of_getElem? (i := 805) (by decide +kernel)
theorem am_wSR5 : Jvm.Cond.stringRef (am_so 5) (am_si 5) (am_stx 5) ∈ wt_tbl := List.mem_of_getElem? (i := 806) (by decide +kernel)
theorem am_wSR6 : Jvm.Cond.stringRef (am_so 6) (am_si 6) (am_stx 6) ∈ wt_tbl := List.mem_of_getElem? (i := 807) (by decide +kernel)
theorem am_wSR : ∀ i : Nat, i < 7 → Jvm.Cond.stringRef (am_so i) (am_si i) (am_stx i) ∈ wt_tbl := am_r7 am_wSR0 am_wSR1 am_wSR2 am_wSR3 am_wSR4 am_wSR5 am_wSR6
set_option maxHeartbeats 4000000 in
theorem am_strs_of {s : State} {args : Array Value} {A : Nat → Prop} (hgv : (Jvm.Cond.and given_1 narrow_1).before args s = true) (hA : ∀ a : Nat, a < s.heap.size → ¬ A a) : ∃ adK adV : Nat → Nat, vk_S 7 am_ln am_byt adK adV A s s.heap ∧ ∀ i : Nat, i < 7 → (am_tm i).eval args s none [] s = some (.ref (adK i)) := by
  have hs := flat_of_before _ hgv
  refine vk_Sof (tm := am_tm) (am_r7 (by decide) (by decide) (by decide) (by decide) (by decide) (by decide) (by decide)) (fun i hi => hs _ (am_elq i hi).1) (fun i hi => hs _ (am_elq i hi).2.1) (fun i hi => hs _ (am_elq i hi).2.2.1) (fun i hi => hs _ (am_elq i hi).2.2.2) (fun i hi j hj => hs _ (am_elm i hi j hj)) (fun i j hi hj hij => ?_) hA
  rcases am_eln i j hi hj hij with h | h
  · exact Or.inl (hs _ h)
  · exact Or.inr (hs _ h)
/-- the places outside the heap of cells -/
def am_q0 (b tO : Nat) (adK adV : Nat → Nat) : Nat → Nat := fun j => if j = am_pL then b else if j = am_pX + 1 then tO else if j < am_pV then adK (j - am_pS) else adV (j - am_pV)
theorem am_q0K {b tO : Nat} {adK adV : Nat → Nat} {i : Nat} (hi : i < 7) : am_q0 b tO adK adV (am_pS + i) = adK i := by
  unfold am_q0 am_pV am_pS am_pL am_pX
  rw [if_neg (by omega), if_neg (by omega), if_pos (by omega), Nat.add_sub_cancel_left]
theorem am_q0V {b tO : Nat} {adK adV : Nat → Nat} {i : Nat} : am_q0 b tO adK adV (am_pV + i) = adV i := by
  unfold am_q0 am_pV am_pS am_pL am_pX
  rw [if_neg (by omega), if_neg (by omega), if_neg (by omega), Nat.add_sub_cancel_left]
set_option maxHeartbeats 4000000 in
theorem whole_of (hlaw : am_law) {p : Program} {e : Env} {s : State} {m : MethodId} {below : List Frame} {meth : Method} {c : Code} (l : Launch) (hflags : l.flags = flags0) {b L : Nat} {xs : Nat → Int32} (hL : L ≤ 260) (C0 : lw_At p s m meth c b L xs) : W p l e room_1 s m #[Value.ref b] below meth c s.heap [] 0 0 (lw_Z below #[Value.ref b] s) (entryFrame m ([Value.ref b] : List Value).toArray 11) := by
  obtain ⟨hx, hb, hr, hml, hown, hts0, hX, hbl, hlocks, hgv⟩ := id C0
  have hts : ∀ w ∈ wt_tbl, w.before #[Value.ref b] s = true := fun w hw => by
    rcases List.mem_append.mp hw with hw | hw
    · obtain ⟨y9, hy9, rfl⟩ := List.mem_map.mp hw
      have h0 : (Jvm.Cond.selects "java/lang/StringBuilder" ⟨"java/lang/AbstractStringBuilder", "isLatin1", "()Z"⟩ ⟨"java/lang/AbstractStringBuilder", "isLatin1", "()Z"⟩).before #[Value.ref b] s = true := hts0 _ (List.mem_of_getElem? (i := 733) (by decide +kernel))
      simp only [am_pj, List.mem_cons, List.not_mem_nil, or_false] at hy9
      rcases hy9 with rfl | rfl | rfl | rfl
      · exact wt_sel rfl ⟨by decide +kernel, by decide +kernel⟩ h0 (hts0 _ (List.mem_of_getElem? (i := 700) (by decide +kernel))) (hts0 _ (List.mem_of_getElem? (i := 701) (by decide +kernel)))
      · exact wt_sel rfl ⟨by decide +kernel, by decide +kernel⟩ h0 (hts0 _ (List.mem_of_getElem? (i := 704) (by decide +kernel))) (hts0 _ (List.mem_of_getElem? (i := 705) (by decide +kernel)))
      · exact wt_sel rfl ⟨by decide +kernel, by decide +kernel⟩ h0 (hts0 _ (List.mem_of_getElem? (i := 743) (by decide +kernel))) (hts0 _ (List.mem_of_getElem? (i := 744) (by decide +kernel)))
      · exact wt_sel rfl ⟨by decide +kernel, by decide +kernel⟩ h0 (hts0 _ (List.mem_of_getElem? (i := 747) (by decide +kernel))) (hts0 _ (List.mem_of_getElem? (i := 748) (by decide +kernel)))
    · exact hts0 w hw
  obtain ⟨dC, dI, hKc⟩ := am_cl_kn hts
  obtain ⟨t0, a0, b0⟩ := am_tyI (hts _ am_wI)
  obtain ⟨t1, a1, b1⟩ := am_tyI (hts _ am_wJ)
  obtain ⟨t2, a2, b2⟩ := am_tyO (hts _ am_wS)
  obtain ⟨t3, a3, b3⟩ := am_tyG (hts _ am_wG)
  obtain ⟨t4, a4, b4⟩ := am_tyI (hts _ am_wB)
  have hA0 : ∀ a : Nat, a < s.heap.size → ¬ (fun q : Nat => s.heap.size ≤ q) a := fun a h1 h2 => Nat.lt_irrefl _ (Nat.lt_of_lt_of_le h1 h2)
  obtain ⟨tO, hZO, hTO⟩ := am_ones_of hts hgv hA0
  obtain ⟨adK, adV, hS1, hS2⟩ := am_strs_of hgv hA0
  have hsv := flat_of_before _ hgv
  have hcs : (Jvm.Cond.eq (.static "java/lang/String" "COMPACT_STRINGS" "Z") (.int 1)).before #[Value.ref b] s = true := hsv _ (am_flm 4 rfl)
  have hfm : (Jvm.Cond.isRef (.static "jdk/internal/util/Preconditions" "SIOOBE_FORMATTER" "Ljava/util/function/BiFunction;")).before #[Value.ref b] s = true := hsv _ (am_flm 5 rfl)
  have eV : (fun i => am_q0 b tO adK adV (am_pV + i)) = adV := funext fun i => am_q0V
  have hS3 : vk_S 7 am_ln am_byt (fun i => am_q0 b tO adK adV (am_pS + i)) (fun i => am_q0 b tO adK adV (am_pV + i)) (fun q : Nat => s.heap.size ≤ q) s s.heap := by
    rw [eV]
    have e0 : ∀ i, i < 7 → am_q0 b tO adK adV (am_pS + i) = adK i := fun i hi => am_q0K hi
    refine ⟨fun i hi => ?_, fun i j hi hj h => ?_⟩
    · dsimp only
      rw [e0 i hi]
      exact hS1.1 i hi
    · have h : am_q0 b tO adK adV (am_pS + i) = am_q0 b tO adK adV (am_pS + j) := h
      rw [e0 i hi, e0 j hj] at h
      exact hS1.2 i j hi hj h
  have hK : va_K (dC, dI) vwCl (am_tys (fun k => match k with
    | 0 => t0
    | 1 => t1
    | 2 => t2
    | 3 => t3
    | _ => t4)) s := by
    refine ⟨hKc, fun k q hq => ?_⟩
    match k, hq with
    | 0, hq => cases hq; exact ⟨a0, b0⟩
    | 1, hq => cases hq; exact ⟨a1, b1⟩
    | 2, hq => cases hq; exact ⟨a2, b2⟩
    | 3, hq => cases hq; exact ⟨a3, b3⟩
    | 4, hq => cases hq; exact ⟨a4, b4⟩
    | k + 5, hq => cases hq
  have hl := lv_entry ([.ref b]) (n := 11) (Nat.le_of_ble_eq_true rfl)
  rw [lg_entry_eq]
  refine am_simul (E := am_fr (am_run (some (L, xs)) 1000)) (sc := some (L, xs)) (y := 129) (d := 1000) (mc := 600000) (ms := 7302250) (Φ := fun r _ => r = some (.int 1)) (D := (dC, dI)) (A := fun q : Nat => s.heap.size ≤ q) (q0 := am_q0 b tO adK adV) (h0 := []) ⟨hx, hb, hml, ⟨Nat.le_of_ble_eq_true rfl, Nat.le_of_ble_eq_true rfl, Nat.le_of_ble_eq_true rfl, Nat.le_of_ble_eq_true rfl⟩, hown, trivial, fun h9 => ?_, fun w hw => hts w (List.mem_filter.mp hw).1, hK, fun _ h => h, ⟨⟨⟨trivial, trivial⟩, hS3, va_Zof (hts _ am_laysC) (hts _ am_wStr) (va_eqi hcs) hA0, va_Zqof (hts _ am_laysF) (hts _ am_wPCi) hfm hA0⟩, ?_, fun i hi => vk_R.of (hts _ (am_wSR i hi)) (by rw [am_q0K hi]; exact hS2 i hi), ⟨hZO, hTO⟩, fun w hw => ?_⟩, ?_⟩ (am_frame (fun z as h r h1 mc1 ms1 => am_met 1000 z as h r h1 mc1 ms1)) (0, [(0, .ref am_pL)], [], [], 0, 0) (hlaw L xs hL) (am_q0 b tO adK adV) s.heap [] _ (fun _ _ => rfl) (Nat.le_refl _) (fun k q h9 => (by cases h9)) ⟨fun i j p q h9 _ _ => (by cases h9), fun k q h9 => (by cases h9)⟩ va_S.rf hl (Nat.zero_le _) (Nat.zero_le _)
  · exact absurd h9 (by decide +kernel)
  · refine ⟨fun w hw hb => ?_, hts _ am_wS, hts _ am_wG⟩
    have h1 := hts w hw
    cases w with
    | methodLinkNest a i x z => exact va_Nw.of rfl h1
    | _ => cases hb
  · cases hw
    obtain ⟨scr, x1, x2, x3, x4, x5⟩ := hX
    exact ⟨scr, x1, x2, x3, by omega, by rw [x4]; rfl, x5, hA0 b hbl⟩
  · intro i r h1 q H locs ls pc k n he hd hΦ g1 g2 g3 g4 g5 g7 g8
    have hΦ : r = some (.int 1) := hΦ
    subst hΦ
    unfold am_end at he
    split at he
    · rename_i x hx9
      cases hx9
      exact W.widen g7 g8 (va_forget g5.2.2 (lw_ret hx hb hr hlocks hd))
    · rename_i hx9
      cases hx9
    · rename_i hx9
      cases hx9
    · rename_i hx9
      cases hx9
    · exact he.elim
end
