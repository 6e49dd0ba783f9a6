-- ===== PART A: goes FIRST, ahead of the names: the tables' words, and 'selects' of the private methods out of them =====
/-- a private method of a class that the tables say can be made, by its rows of tables_1 -/
def lw_okq (q : MethodName × Nat) : Prop := (q.1.cls ≠ "java/lang/invoke/MethodHandle" ∧ q.1.cls ≠ "java/lang/invoke/VarHandle") ∧ Cond.instantiable q.1.cls q.2 ∈ tables_1 ∧ Cond.privateMethod q.1 ∈ tables_1 ∧ Cond.instanceMethod q.1 ∈ tables_1
theorem lw_p0 : lw_okq (⟨"LockedToAnothers$Reader", "advance", "()V"⟩, 9) := ⟨⟨by decide +kernel, by decide +kernel⟩, List.mem_of_getElem? (i := 102) (by decide +kernel), List.mem_of_getElem? (i := 197) (by decide +kernel), List.mem_of_getElem? (i := 198) (by decide +kernel)⟩
theorem lw_p1 : lw_okq (⟨"LockedToAnothers$Reader", "scanWord", "()I"⟩, 9) := ⟨⟨by decide +kernel, by decide +kernel⟩, List.mem_of_getElem? (i := 102) (by decide +kernel), List.mem_of_getElem? (i := 204) (by decide +kernel), List.mem_of_getElem? (i := 205) (by decide +kernel)⟩
theorem lw_p2 : lw_okq (⟨"LockedToAnothers$Reader", "wordNumber", "()I"⟩, 9) := ⟨⟨by decide +kernel, by decide +kernel⟩, List.mem_of_getElem? (i := 102) (by decide +kernel), List.mem_of_getElem? (i := 208) (by decide +kernel), List.mem_of_getElem? (i := 209) (by decide +kernel)⟩
theorem lw_p3 : lw_okq (⟨"LockedToAnothers$Reader", "scanNumber", "()I"⟩, 9) := ⟨⟨by decide +kernel, by decide +kernel⟩, List.mem_of_getElem? (i := 102) (by decide +kernel), List.mem_of_getElem? (i := 215) (by decide +kernel), List.mem_of_getElem? (i := 216) (by decide +kernel)⟩
theorem lw_p4 : lw_okq (⟨"LockedToAnothers$Reader", "demand", "(I)V"⟩, 9) := ⟨⟨by decide +kernel, by decide +kernel⟩, List.mem_of_getElem? (i := 102) (by decide +kernel), List.mem_of_getElem? (i := 279) (by decide +kernel), List.mem_of_getElem? (i := 280) (by decide +kernel)⟩
theorem lw_p5 : lw_okq (⟨"LockedToAnothers$Reader", "refuse", "()V"⟩, 9) := ⟨⟨by decide +kernel, by decide +kernel⟩, List.mem_of_getElem? (i := 102) (by decide +kernel), List.mem_of_getElem? (i := 283) (by decide +kernel), List.mem_of_getElem? (i := 284) (by decide +kernel)⟩
theorem lw_p6 : lw_okq (⟨"LockedToAnothers$Reader", "expression", "(II)V"⟩, 9) := ⟨⟨by decide +kernel, by decide +kernel⟩, List.mem_of_getElem? (i := 102) (by decide +kernel), List.mem_of_getElem? (i := 287) (by decide +kernel), List.mem_of_getElem? (i := 288) (by decide +kernel)⟩
theorem lw_p7 : lw_okq (⟨"LockedToAnothers$Reader", "one", "(I)V"⟩, 9) := ⟨⟨by decide +kernel, by decide +kernel⟩, List.mem_of_getElem? (i := 102) (by decide +kernel), List.mem_of_getElem? (i := 291) (by decide +kernel), List.mem_of_getElem? (i := 292) (by decide +kernel)⟩
theorem lw_p8 : lw_okq (⟨"LockedToAnothers$Reader", "write", "(I)V"⟩, 9) := ⟨⟨by decide +kernel, by decide +kernel⟩, List.mem_of_getElem? (i := 102) (by decide +kernel), List.mem_of_getElem? (i := 295) (by decide +kernel), List.mem_of_getElem? (i := 296) (by decide +kernel)⟩
theorem lw_p9 : lw_okq (⟨"LockedToAnothers$Reader", "joiner", "(I)I"⟩, 9) := ⟨⟨by decide +kernel, by decide +kernel⟩, List.mem_of_getElem? (i := 102) (by decide +kernel), List.mem_of_getElem? (i := 299) (by decide +kernel), List.mem_of_getElem? (i := 300) (by decide +kernel)⟩
theorem lw_p10 : lw_okq (⟨"LockedToAnothers$LawBook", "worth", "(II)I"⟩, 8) := ⟨⟨by decide +kernel, by decide +kernel⟩, List.mem_of_getElem? (i := 96) (by decide +kernel), List.mem_of_getElem? (i := 465) (by decide +kernel), List.mem_of_getElem? (i := 466) (by decide +kernel)⟩
theorem lw_p11 : lw_okq (⟨"LockedToAnothers$Rail", "regrip", "(I)V"⟩, 12) := ⟨⟨by decide +kernel, by decide +kernel⟩, List.mem_of_getElem? (i := 27) (by decide +kernel), List.mem_of_getElem? (i := 498) (by decide +kernel), List.mem_of_getElem? (i := 499) (by decide +kernel)⟩
theorem lw_p12 : lw_okq (⟨"LockedToAnothers$Orders", "countAll", "()V"⟩, 4) := ⟨⟨by decide +kernel, by decide +kernel⟩, List.mem_of_getElem? (i := 332) (by decide +kernel), List.mem_of_getElem? (i := 626) (by decide +kernel), List.mem_of_getElem? (i := 627) (by decide +kernel)⟩
theorem lw_p13 : lw_okq (⟨"LockedToAnothers$Orders", "lengthenRows", "(II)Z"⟩, 4) := ⟨⟨by decide +kernel, by decide +kernel⟩, List.mem_of_getElem? (i := 332) (by decide +kernel), List.mem_of_getElem? (i := 649) (by decide +kernel), List.mem_of_getElem? (i := 650) (by decide +kernel)⟩
theorem lw_p14 : lw_okq (⟨"LockedToAnothers$Day", "willingIn", "(I[I)I"⟩, 2) := ⟨⟨by decide +kernel, by decide +kernel⟩, List.mem_of_getElem? (i := 351) (by decide +kernel), List.mem_of_getElem? (i := 681) (by decide +kernel), List.mem_of_getElem? (i := 682) (by decide +kernel)⟩
theorem lw_p15 : lw_okq (⟨"LockedToAnothers$Day", "write", "(II)V"⟩, 2) := ⟨⟨by decide +kernel, by decide +kernel⟩, List.mem_of_getElem? (i := 351) (by decide +kernel), List.mem_of_getElem? (i := 687) (by decide +kernel), List.mem_of_getElem? (i := 688) (by decide +kernel)⟩
def lw_privs_1 : List (MethodName × Nat) := [(⟨"LockedToAnothers$Reader", "advance", "()V"⟩, 9), (⟨"LockedToAnothers$Reader", "scanWord", "()I"⟩, 9), (⟨"LockedToAnothers$Reader", "wordNumber", "()I"⟩, 9), (⟨"LockedToAnothers$Reader", "scanNumber", "()I"⟩, 9), (⟨"LockedToAnothers$Reader", "demand", "(I)V"⟩, 9), (⟨"LockedToAnothers$Reader", "refuse", "()V"⟩, 9), (⟨"LockedToAnothers$Reader", "expression", "(II)V"⟩, 9), (⟨"LockedToAnothers$Reader", "one", "(I)V"⟩, 9), (⟨"LockedToAnothers$Reader", "write", "(I)V"⟩, 9), (⟨"LockedToAnothers$Reader", "joiner", "(I)I"⟩, 9), (⟨"LockedToAnothers$LawBook", "worth", "(II)I"⟩, 8), (⟨"LockedToAnothers$Rail", "regrip", "(I)V"⟩, 12), (⟨"LockedToAnothers$Orders", "countAll", "()V"⟩, 4), (⟨"LockedToAnothers$Orders", "lengthenRows", "(II)Z"⟩, 4), (⟨"LockedToAnothers$Day", "willingIn", "(I[I)I"⟩, 2), (⟨"LockedToAnothers$Day", "write", "(II)V"⟩, 2)]
theorem lw_r1 : ∀ q ∈ lw_privs_1, lw_okq q := List.forall_mem_cons.mpr ⟨lw_p0, List.forall_mem_cons.mpr ⟨lw_p1, List.forall_mem_cons.mpr ⟨lw_p2, List.forall_mem_cons.mpr ⟨lw_p3, List.forall_mem_cons.mpr ⟨lw_p4, List.forall_mem_cons.mpr ⟨lw_p5, List.forall_mem_cons.mpr ⟨lw_p6, List.forall_mem_cons.mpr ⟨lw_p7, List.forall_mem_cons.mpr ⟨lw_p8, List.forall_mem_cons.mpr ⟨lw_p9, List.forall_mem_cons.mpr ⟨lw_p10, List.forall_mem_cons.mpr ⟨lw_p11, List.forall_mem_cons.mpr ⟨lw_p12, List.forall_mem_cons.mpr ⟨lw_p13, List.forall_mem_cons.mpr ⟨lw_p14, List.forall_mem_cons.mpr ⟨lw_p15, fun _ h => absurd h List.not_mem_nil⟩⟩⟩⟩⟩⟩⟩⟩⟩⟩⟩⟩⟩⟩⟩⟩
theorem lw_p16 : lw_okq (⟨"LockedToAnothers", "badness", "()I"⟩, 10) := ⟨⟨by decide +kernel, by decide +kernel⟩, List.mem_of_getElem? (i := 19) (by decide +kernel), List.mem_of_getElem? (i := 696) (by decide +kernel), List.mem_of_getElem? (i := 697) (by decide +kernel)⟩
theorem lw_p17 : lw_okq (⟨"LockedToAnothers", "cheapestSaws", "(II)I"⟩, 10) := ⟨⟨by decide +kernel, by decide +kernel⟩, List.mem_of_getElem? (i := 19) (by decide +kernel), List.mem_of_getElem? (i := 712) (by decide +kernel), List.mem_of_getElem? (i := 713) (by decide +kernel)⟩
theorem lw_p18 : lw_okq (⟨"LockedToAnothers", "priceOf", "(I)I"⟩, 10) := ⟨⟨by decide +kernel, by decide +kernel⟩, List.mem_of_getElem? (i := 19) (by decide +kernel), List.mem_of_getElem? (i := 716) (by decide +kernel), List.mem_of_getElem? (i := 717) (by decide +kernel)⟩
theorem lw_p19 : lw_okq (⟨"LockedToAnothers", "toSteal", "(I)I"⟩, 10) := ⟨⟨by decide +kernel, by decide +kernel⟩, List.mem_of_getElem? (i := 19) (by decide +kernel), List.mem_of_getElem? (i := 758) (by decide +kernel), List.mem_of_getElem? (i := 759) (by decide +kernel)⟩
theorem lw_p20 : lw_okq (⟨"LockedToAnothers", "refusalOf", "(I)I"⟩, 10) := ⟨⟨by decide +kernel, by decide +kernel⟩, List.mem_of_getElem? (i := 19) (by decide +kernel), List.mem_of_getElem? (i := 785) (by decide +kernel), List.mem_of_getElem? (i := 786) (by decide +kernel)⟩
theorem lw_p21 : lw_okq (⟨"LockedToAnothers", "firstWrong", "(LLockedToAnothers$Sheet;)I"⟩, 10) := ⟨⟨by decide +kernel, by decide +kernel⟩, List.mem_of_getElem? (i := 19) (by decide +kernel), List.mem_of_getElem? (i := 796) (by decide +kernel), List.mem_of_getElem? (i := 797) (by decide +kernel)⟩
theorem lw_p22 : lw_okq (⟨"LockedToAnothers", "ownersBy", "(LLockedToAnothers$Sheet;I)I"⟩, 10) := ⟨⟨by decide +kernel, by decide +kernel⟩, List.mem_of_getElem? (i := 19) (by decide +kernel), List.mem_of_getElem? (i := 804) (by decide +kernel), List.mem_of_getElem? (i := 805) (by decide +kernel)⟩
theorem lw_p23 : lw_okq (⟨"LockedToAnothers", "sortsBy", "(LLockedToAnothers$Sheet;I)I"⟩, 10) := ⟨⟨by decide +kernel, by decide +kernel⟩, List.mem_of_getElem? (i := 19) (by decide +kernel), List.mem_of_getElem? (i := 808) (by decide +kernel), List.mem_of_getElem? (i := 809) (by decide +kernel)⟩
theorem lw_p24 : lw_okq (⟨"LockedToAnothers", "sawsAreSo", "(LLockedToAnothers$Sheet;I)Z"⟩, 10) := ⟨⟨by decide +kernel, by decide +kernel⟩, List.mem_of_getElem? (i := 19) (by decide +kernel), List.mem_of_getElem? (i := 821) (by decide +kernel), List.mem_of_getElem? (i := 822) (by decide +kernel)⟩
theorem lw_p25 : lw_okq (⟨"LockedToAnothersModel", "next", "()V"⟩, 42) := ⟨⟨by decide +kernel, by decide +kernel⟩, List.mem_of_getElem? (i := 907) (by decide +kernel), List.mem_of_getElem? (i := 917) (by decide +kernel), List.mem_of_getElem? (i := 918) (by decide +kernel)⟩
theorem lw_p26 : lw_okq (⟨"LockedToAnothersModel", "wordFrom", "(II)I"⟩, 42) := ⟨⟨by decide +kernel, by decide +kernel⟩, List.mem_of_getElem? (i := 907) (by decide +kernel), List.mem_of_getElem? (i := 924) (by decide +kernel), List.mem_of_getElem? (i := 925) (by decide +kernel)⟩
theorem lw_p27 : lw_okq (⟨"LockedToAnothersModel", "eRead", "()Z"⟩, 42) := ⟨⟨by decide +kernel, by decide +kernel⟩, List.mem_of_getElem? (i := 907) (by decide +kernel), List.mem_of_getElem? (i := 928) (by decide +kernel), List.mem_of_getElem? (i := 929) (by decide +kernel)⟩
theorem lw_p28 : lw_okq (⟨"LockedToAnothersModel", "puts", "(I)V"⟩, 42) := ⟨⟨by decide +kernel, by decide +kernel⟩, List.mem_of_getElem? (i := 907) (by decide +kernel), List.mem_of_getElem? (i := 933) (by decide +kernel), List.mem_of_getElem? (i := 934) (by decide +kernel)⟩
theorem lw_p29 : lw_okq (⟨"LockedToAnothersModel", "unwinds", "(I)V"⟩, 42) := ⟨⟨by decide +kernel, by decide +kernel⟩, List.mem_of_getElem? (i := 907) (by decide +kernel), List.mem_of_getElem? (i := 937) (by decide +kernel), List.mem_of_getElem? (i := 938) (by decide +kernel)⟩
theorem lw_p30 : lw_okq (⟨"LockedToAnothersModel", "opensOne", "(I)Z"⟩, 42) := ⟨⟨by decide +kernel, by decide +kernel⟩, List.mem_of_getElem? (i := 907) (by decide +kernel), List.mem_of_getElem? (i := 944) (by decide +kernel), List.mem_of_getElem? (i := 945) (by decide +kernel)⟩
theorem lw_p31 : lw_okq (⟨"LockedToAnothersModel", "holdsThat", "(I)V"⟩, 42) := ⟨⟨by decide +kernel, by decide +kernel⟩, List.mem_of_getElem? (i := 907) (by decide +kernel), List.mem_of_getElem? (i := 948) (by decide +kernel), List.mem_of_getElem? (i := 949) (by decide +kernel)⟩
def lw_privs_2 : List (MethodName × Nat) := [(⟨"LockedToAnothers", "badness", "()I"⟩, 10), (⟨"LockedToAnothers", "cheapestSaws", "(II)I"⟩, 10), (⟨"LockedToAnothers", "priceOf", "(I)I"⟩, 10), (⟨"LockedToAnothers", "toSteal", "(I)I"⟩, 10), (⟨"LockedToAnothers", "refusalOf", "(I)I"⟩, 10), (⟨"LockedToAnothers", "firstWrong", "(LLockedToAnothers$Sheet;)I"⟩, 10), (⟨"LockedToAnothers", "ownersBy", "(LLockedToAnothers$Sheet;I)I"⟩, 10), (⟨"LockedToAnothers", "sortsBy", "(LLockedToAnothers$Sheet;I)I"⟩, 10), (⟨"LockedToAnothers", "sawsAreSo", "(LLockedToAnothers$Sheet;I)Z"⟩, 10), (⟨"LockedToAnothersModel", "next", "()V"⟩, 42), (⟨"LockedToAnothersModel", "wordFrom", "(II)I"⟩, 42), (⟨"LockedToAnothersModel", "eRead", "()Z"⟩, 42), (⟨"LockedToAnothersModel", "puts", "(I)V"⟩, 42), (⟨"LockedToAnothersModel", "unwinds", "(I)V"⟩, 42), (⟨"LockedToAnothersModel", "opensOne", "(I)Z"⟩, 42), (⟨"LockedToAnothersModel", "holdsThat", "(I)V"⟩, 42)]
theorem lw_r2 : ∀ q ∈ lw_privs_2, lw_okq q := List.forall_mem_cons.mpr ⟨lw_p16, List.forall_mem_cons.mpr ⟨lw_p17, List.forall_mem_cons.mpr ⟨lw_p18, List.forall_mem_cons.mpr ⟨lw_p19, List.forall_mem_cons.mpr ⟨lw_p20, List.forall_mem_cons.mpr ⟨lw_p21, List.forall_mem_cons.mpr ⟨lw_p22, List.forall_mem_cons.mpr ⟨lw_p23, List.forall_mem_cons.mpr ⟨lw_p24, List.forall_mem_cons.mpr ⟨lw_p25, List.forall_mem_cons.mpr ⟨lw_p26, List.forall_mem_cons.mpr ⟨lw_p27, List.forall_mem_cons.mpr ⟨lw_p28, List.forall_mem_cons.mpr ⟨lw_p29, List.forall_mem_cons.mpr ⟨lw_p30, List.forall_mem_cons.mpr ⟨lw_p31, fun _ h => absurd h List.not_mem_nil⟩⟩⟩⟩⟩⟩⟩⟩⟩⟩⟩⟩⟩⟩⟩⟩
theorem lw_p32 : lw_okq (⟨"LockedToAnothersModel", "signOf", "()I"⟩, 42) := ⟨⟨by decide +kernel, by decide +kernel⟩, List.mem_of_getElem? (i := 907) (by decide +kernel), List.mem_of_getElem? (i := 952) (by decide +kernel), List.mem_of_getElem? (i := 953) (by decide +kernel)⟩
theorem lw_p33 : lw_okq (⟨"LockedToAnothersModel", "between", "(I)Z"⟩, 42) := ⟨⟨by decide +kernel, by decide +kernel⟩, List.mem_of_getElem? (i := 907) (by decide +kernel), List.mem_of_getElem? (i := 956) (by decide +kernel), List.mem_of_getElem? (i := 957) (by decide +kernel)⟩
theorem lw_p34 : lw_okq (⟨"LockedToAnothersModel", "isThing", "(I)Z"⟩, 42) := ⟨⟨by decide +kernel, by decide +kernel⟩, List.mem_of_getElem? (i := 907) (by decide +kernel), List.mem_of_getElem? (i := 1108) (by decide +kernel), List.mem_of_getElem? (i := 1109) (by decide +kernel)⟩
theorem lw_p35 : lw_okq (⟨"LockedToAnothersModel", "isLock", "(I)Z"⟩, 42) := ⟨⟨by decide +kernel, by decide +kernel⟩, List.mem_of_getElem? (i := 907) (by decide +kernel), List.mem_of_getElem? (i := 1112) (by decide +kernel), List.mem_of_getElem? (i := 1113) (by decide +kernel)⟩
theorem lw_p36 : lw_okq (⟨"LockedToAnothersModel", "asksOf", "(IIII)I"⟩, 42) := ⟨⟨by decide +kernel, by decide +kernel⟩, List.mem_of_getElem? (i := 907) (by decide +kernel), List.mem_of_getElem? (i := 1119) (by decide +kernel), List.mem_of_getElem? (i := 1120) (by decide +kernel)⟩
theorem lw_p37 : lw_okq (⟨"LockedToAnothersModel", "sortOf", "(I)I"⟩, 42) := ⟨⟨by decide +kernel, by decide +kernel⟩, List.mem_of_getElem? (i := 907) (by decide +kernel), List.mem_of_getElem? (i := 1123) (by decide +kernel), List.mem_of_getElem? (i := 1124) (by decide +kernel)⟩
theorem lw_p38 : lw_okq (⟨"LockedToAnothersModel", "through", "(I)I"⟩, 42) := ⟨⟨by decide +kernel, by decide +kernel⟩, List.mem_of_getElem? (i := 907) (by decide +kernel), List.mem_of_getElem? (i := 1127) (by decide +kernel), List.mem_of_getElem? (i := 1128) (by decide +kernel)⟩
theorem lw_p39 : lw_okq (⟨"LockedToAnothersModel", "says", "(I)I"⟩, 42) := ⟨⟨by decide +kernel, by decide +kernel⟩, List.mem_of_getElem? (i := 907) (by decide +kernel), List.mem_of_getElem? (i := 1134) (by decide +kernel), List.mem_of_getElem? (i := 1135) (by decide +kernel)⟩
theorem lw_p40 : lw_okq (⟨"LockedToAnothersModel", "isGone", "(I)Z"⟩, 42) := ⟨⟨by decide +kernel, by decide +kernel⟩, List.mem_of_getElem? (i := 907) (by decide +kernel), List.mem_of_getElem? (i := 1156) (by decide +kernel), List.mem_of_getElem? (i := 1157) (by decide +kernel)⟩
theorem lw_p41 : lw_okq (⟨"LockedToAnothersModel", "areSome", "(I)Z"⟩, 42) := ⟨⟨by decide +kernel, by decide +kernel⟩, List.mem_of_getElem? (i := 907) (by decide +kernel), List.mem_of_getElem? (i := 1164) (by decide +kernel), List.mem_of_getElem? (i := 1165) (by decide +kernel)⟩
theorem lw_p42 : lw_okq (⟨"LockedToAnothersModel", "everything", "()I"⟩, 42) := ⟨⟨by decide +kernel, by decide +kernel⟩, List.mem_of_getElem? (i := 907) (by decide +kernel), List.mem_of_getElem? (i := 1168) (by decide +kernel), List.mem_of_getElem? (i := 1169) (by decide +kernel)⟩
theorem lw_p43 : lw_okq (⟨"LockedToAnothersModel", "isSawn", "(I)Z"⟩, 42) := ⟨⟨by decide +kernel, by decide +kernel⟩, List.mem_of_getElem? (i := 907) (by decide +kernel), List.mem_of_getElem? (i := 1180) (by decide +kernel), List.mem_of_getElem? (i := 1181) (by decide +kernel)⟩
theorem lw_p44 : lw_okq (⟨"LockedToAnothersModel", "isShut", "(I)Z"⟩, 42) := ⟨⟨by decide +kernel, by decide +kernel⟩, List.mem_of_getElem? (i := 907) (by decide +kernel), List.mem_of_getElem? (i := 1184) (by decide +kernel), List.mem_of_getElem? (i := 1185) (by decide +kernel)⟩
theorem lw_p45 : lw_okq (⟨"LockedToAnothersModel", "owner", "(I)I"⟩, 42) := ⟨⟨by decide +kernel, by decide +kernel⟩, List.mem_of_getElem? (i := 907) (by decide +kernel), List.mem_of_getElem? (i := 1188) (by decide +kernel), List.mem_of_getElem? (i := 1189) (by decide +kernel)⟩
theorem lw_p46 : lw_okq (⟨"LockedToAnothersModel", "holdsNow", "(I)I"⟩, 42) := ⟨⟨by decide +kernel, by decide +kernel⟩, List.mem_of_getElem? (i := 907) (by decide +kernel), List.mem_of_getElem? (i := 1196) (by decide +kernel), List.mem_of_getElem? (i := 1197) (by decide +kernel)⟩
theorem lw_p47 : lw_okq (⟨"LockedToAnothersModel", "fixes", "(II)Z"⟩, 42) := ⟨⟨by decide +kernel, by decide +kernel⟩, List.mem_of_getElem? (i := 907) (by decide +kernel), List.mem_of_getElem? (i := 1200) (by decide +kernel), List.mem_of_getElem? (i := 1201) (by decide +kernel)⟩
def lw_privs_3 : List (MethodName × Nat) := [(⟨"LockedToAnothersModel", "signOf", "()I"⟩, 42), (⟨"LockedToAnothersModel", "between", "(I)Z"⟩, 42), (⟨"LockedToAnothersModel", "isThing", "(I)Z"⟩, 42), (⟨"LockedToAnothersModel", "isLock", "(I)Z"⟩, 42), (⟨"LockedToAnothersModel", "asksOf", "(IIII)I"⟩, 42), (⟨"LockedToAnothersModel", "sortOf", "(I)I"⟩, 42), (⟨"LockedToAnothersModel", "through", "(I)I"⟩, 42), (⟨"LockedToAnothersModel", "says", "(I)I"⟩, 42), (⟨"LockedToAnothersModel", "isGone", "(I)Z"⟩, 42), (⟨"LockedToAnothersModel", "areSome", "(I)Z"⟩, 42), (⟨"LockedToAnothersModel", "everything", "()I"⟩, 42), (⟨"LockedToAnothersModel", "isSawn", "(I)Z"⟩, 42), (⟨"LockedToAnothersModel", "isShut", "(I)Z"⟩, 42), (⟨"LockedToAnothersModel", "owner", "(I)I"⟩, 42), (⟨"LockedToAnothersModel", "holdsNow", "(I)I"⟩, 42), (⟨"LockedToAnothersModel", "fixes", "(II)Z"⟩, 42)]
theorem lw_r3 : ∀ q ∈ lw_privs_3, lw_okq q := List.forall_mem_cons.mpr ⟨lw_p32, List.forall_mem_cons.mpr ⟨lw_p33, List.forall_mem_cons.mpr ⟨lw_p34, List.forall_mem_cons.mpr ⟨lw_p35, List.forall_mem_cons.mpr ⟨lw_p36, List.forall_mem_cons.mpr ⟨lw_p37, List.forall_mem_cons.mpr ⟨lw_p38, List.forall_mem_cons.mpr ⟨lw_p39, List.forall_mem_cons.mpr ⟨lw_p40, List.forall_mem_cons.mpr ⟨lw_p41, List.forall_mem_cons.mpr ⟨lw_p42, List.forall_mem_cons.mpr ⟨lw_p43, List.forall_mem_cons.mpr ⟨lw_p44, List.forall_mem_cons.mpr ⟨lw_p45, List.forall_mem_cons.mpr ⟨lw_p46, List.forall_mem_cons.mpr ⟨lw_p47, fun _ h => absurd h List.not_mem_nil⟩⟩⟩⟩⟩⟩⟩⟩⟩⟩⟩⟩⟩⟩⟩⟩
theorem lw_p48 : lw_okq (⟨"LockedToAnothersModel", "isHeldBySort", "(II)Z"⟩, 42) := ⟨⟨by decide +kernel, by decide +kernel⟩, List.mem_of_getElem? (i := 907) (by decide +kernel), List.mem_of_getElem? (i := 1204) (by decide +kernel), List.mem_of_getElem? (i := 1205) (by decide +kernel)⟩
theorem lw_p49 : lw_okq (⟨"LockedToAnothersModel", "canGo", "(I)Z"⟩, 42) := ⟨⟨by decide +kernel, by decide +kernel⟩, List.mem_of_getElem? (i := 907) (by decide +kernel), List.mem_of_getElem? (i := 1212) (by decide +kernel), List.mem_of_getElem? (i := 1213) (by decide +kernel)⟩
theorem lw_p50 : lw_okq (⟨"LockedToAnothersModel", "sawsOf", "(I)I"⟩, 42) := ⟨⟨by decide +kernel, by decide +kernel⟩, List.mem_of_getElem? (i := 907) (by decide +kernel), List.mem_of_getElem? (i := 1224) (by decide +kernel), List.mem_of_getElem? (i := 1225) (by decide +kernel)⟩
theorem lw_p51 : lw_okq (⟨"LockedToAnothersModel", "waitsFor", "(I)I"⟩, 42) := ⟨⟨by decide +kernel, by decide +kernel⟩, List.mem_of_getElem? (i := 907) (by decide +kernel), List.mem_of_getElem? (i := 1232) (by decide +kernel), List.mem_of_getElem? (i := 1233) (by decide +kernel)⟩
theorem lw_p52 : lw_okq (⟨"LockedToAnothersModel", "goneAtLast", "(I)I"⟩, 42) := ⟨⟨by decide +kernel, by decide +kernel⟩, List.mem_of_getElem? (i := 907) (by decide +kernel), List.mem_of_getElem? (i := 1240) (by decide +kernel), List.mem_of_getElem? (i := 1241) (by decide +kernel)⟩
theorem lw_p53 : lw_okq (⟨"LockedToAnothersModel", "fewestFor", "(I)I"⟩, 42) := ⟨⟨by decide +kernel, by decide +kernel⟩, List.mem_of_getElem? (i := 907) (by decide +kernel), List.mem_of_getElem? (i := 1248) (by decide +kernel), List.mem_of_getElem? (i := 1249) (by decide +kernel)⟩
theorem lw_p54 : lw_okq (⟨"LockedToAnothersModel", "countsOrders", "(I)V"⟩, 42) := ⟨⟨by decide +kernel, by decide +kernel⟩, List.mem_of_getElem? (i := 907) (by decide +kernel), List.mem_of_getElem? (i := 1252) (by decide +kernel), List.mem_of_getElem? (i := 1253) (by decide +kernel)⟩
theorem lw_p55 : lw_okq (⟨"LockedToAnothersModel", "isFreeBehind", "(II)Z"⟩, 42) := ⟨⟨by decide +kernel, by decide +kernel⟩, List.mem_of_getElem? (i := 907) (by decide +kernel), List.mem_of_getElem? (i := 1256) (by decide +kernel), List.mem_of_getElem? (i := 1257) (by decide +kernel)⟩
theorem lw_p56 : lw_okq (⟨"LockedToAnothersModel", "neededFor", "(I)I"⟩, 42) := ⟨⟨by decide +kernel, by decide +kernel⟩, List.mem_of_getElem? (i := 907) (by decide +kernel), List.mem_of_getElem? (i := 1260) (by decide +kernel), List.mem_of_getElem? (i := 1261) (by decide +kernel)⟩
theorem lw_p57 : lw_okq (⟨"LockedToAnothersModel", "leastFree", "()I"⟩, 42) := ⟨⟨by decide +kernel, by decide +kernel⟩, List.mem_of_getElem? (i := 907) (by decide +kernel), List.mem_of_getElem? (i := 1281) (by decide +kernel), List.mem_of_getElem? (i := 1282) (by decide +kernel)⟩
theorem lw_p58 : lw_okq (⟨"LockedToAnothersModel", "lives", "()V"⟩, 42) := ⟨⟨by decide +kernel, by decide +kernel⟩, List.mem_of_getElem? (i := 907) (by decide +kernel), List.mem_of_getElem? (i := 1289) (by decide +kernel), List.mem_of_getElem? (i := 1290) (by decide +kernel)⟩
theorem lw_p59 : lw_okq (⟨"LockedToAnothersModel", "round", "(I)Z"⟩, 42) := ⟨⟨by decide +kernel, by decide +kernel⟩, List.mem_of_getElem? (i := 907) (by decide +kernel), List.mem_of_getElem? (i := 1293) (by decide +kernel), List.mem_of_getElem? (i := 1294) (by decide +kernel)⟩
theorem lw_p60 : lw_okq (⟨"LockedToAnothersModel", "goesIn", "(II)Z"⟩, 42) := ⟨⟨by decide +kernel, by decide +kernel⟩, List.mem_of_getElem? (i := 907) (by decide +kernel), List.mem_of_getElem? (i := 1297) (by decide +kernel), List.mem_of_getElem? (i := 1298) (by decide +kernel)⟩
theorem lw_p61 : lw_okq (⟨"LockedToAnothersModel", "badness", "()I"⟩, 42) := ⟨⟨by decide +kernel, by decide +kernel⟩, List.mem_of_getElem? (i := 907) (by decide +kernel), List.mem_of_getElem? (i := 1305) (by decide +kernel), List.mem_of_getElem? (i := 1306) (by decide +kernel)⟩
theorem lw_p62 : lw_okq (⟨"LockedToAnothersModel", "sawsFor", "(I)I"⟩, 42) := ⟨⟨by decide +kernel, by decide +kernel⟩, List.mem_of_getElem? (i := 907) (by decide +kernel), List.mem_of_getElem? (i := 1317) (by decide +kernel), List.mem_of_getElem? (i := 1318) (by decide +kernel)⟩
theorem lw_p63 : lw_okq (⟨"LockedToAnothersModel", "shutNow", "()I"⟩, 42) := ⟨⟨by decide +kernel, by decide +kernel⟩, List.mem_of_getElem? (i := 907) (by decide +kernel), List.mem_of_getElem? (i := 1321) (by decide +kernel), List.mem_of_getElem? (i := 1322) (by decide +kernel)⟩
def lw_privs_4 : List (MethodName × Nat) := [(⟨"LockedToAnothersModel", "isHeldBySort", "(II)Z"⟩, 42), (⟨"LockedToAnothersModel", "canGo", "(I)Z"⟩, 42), (⟨"LockedToAnothersModel", "sawsOf", "(I)I"⟩, 42), (⟨"LockedToAnothersModel", "waitsFor", "(I)I"⟩, 42), (⟨"LockedToAnothersModel", "goneAtLast", "(I)I"⟩, 42), (⟨"LockedToAnothersModel", "fewestFor", "(I)I"⟩, 42), (⟨"LockedToAnothersModel", "countsOrders", "(I)V"⟩, 42), (⟨"LockedToAnothersModel", "isFreeBehind", "(II)Z"⟩, 42), (⟨"LockedToAnothersModel", "neededFor", "(I)I"⟩, 42), (⟨"LockedToAnothersModel", "leastFree", "()I"⟩, 42), (⟨"LockedToAnothersModel", "lives", "()V"⟩, 42), (⟨"LockedToAnothersModel", "round", "(I)Z"⟩, 42), (⟨"LockedToAnothersModel", "goesIn", "(II)Z"⟩, 42), (⟨"LockedToAnothersModel", "badness", "()I"⟩, 42), (⟨"LockedToAnothersModel", "sawsFor", "(I)I"⟩, 42), (⟨"LockedToAnothersModel", "shutNow", "()I"⟩, 42)]
theorem lw_r4 : ∀ q ∈ lw_privs_4, lw_okq q := List.forall_mem_cons.mpr ⟨lw_p48, List.forall_mem_cons.mpr ⟨lw_p49, List.forall_mem_cons.mpr ⟨lw_p50, List.forall_mem_cons.mpr ⟨lw_p51, List.forall_mem_cons.mpr ⟨lw_p52, List.forall_mem_cons.mpr ⟨lw_p53, List.forall_mem_cons.mpr ⟨lw_p54, List.forall_mem_cons.mpr ⟨lw_p55, List.forall_mem_cons.mpr ⟨lw_p56, List.forall_mem_cons.mpr ⟨lw_p57, List.forall_mem_cons.mpr ⟨lw_p58, List.forall_mem_cons.mpr ⟨lw_p59, List.forall_mem_cons.mpr ⟨lw_p60, List.forall_mem_cons.mpr ⟨lw_p61, List.forall_mem_cons.mpr ⟨lw_p62, List.forall_mem_cons.mpr ⟨lw_p63, fun _ h => absurd h List.not_mem_nil⟩⟩⟩⟩⟩⟩⟩⟩⟩⟩⟩⟩⟩⟩⟩⟩
theorem lw_p64 : lw_okq (⟨"LockedToAnothersModel", "ever", "()I"⟩, 42) := ⟨⟨by decide +kernel, by decide +kernel⟩, List.mem_of_getElem? (i := 907) (by decide +kernel), List.mem_of_getElem? (i := 1329) (by decide +kernel), List.mem_of_getElem? (i := 1330) (by decide +kernel)⟩
theorem lw_p65 : lw_okq (⟨"LockedToAnothersModel", "offBy", "(II)I"⟩, 42) := ⟨⟨by decide +kernel, by decide +kernel⟩, List.mem_of_getElem? (i := 907) (by decide +kernel), List.mem_of_getElem? (i := 1345) (by decide +kernel), List.mem_of_getElem? (i := 1346) (by decide +kernel)⟩
theorem lw_p66 : lw_okq (⟨"LockedToAnothersModel", "fixedBy", "(I)I"⟩, 42) := ⟨⟨by decide +kernel, by decide +kernel⟩, List.mem_of_getElem? (i := 907) (by decide +kernel), List.mem_of_getElem? (i := 1353) (by decide +kernel), List.mem_of_getElem? (i := 1354) (by decide +kernel)⟩
theorem lw_p67 : lw_okq (⟨"LockedToAnothersModel", "theftOf", "(I)I"⟩, 42) := ⟨⟨by decide +kernel, by decide +kernel⟩, List.mem_of_getElem? (i := 907) (by decide +kernel), List.mem_of_getElem? (i := 1361) (by decide +kernel), List.mem_of_getElem? (i := 1362) (by decide +kernel)⟩
theorem lw_p68 : lw_okq (⟨"LockedToAnothersModel", "sheetWrong", "(I)I"⟩, 42) := ⟨⟨by decide +kernel, by decide +kernel⟩, List.mem_of_getElem? (i := 907) (by decide +kernel), List.mem_of_getElem? (i := 1378) (by decide +kernel), List.mem_of_getElem? (i := 1379) (by decide +kernel)⟩
theorem lw_p69 : lw_okq (⟨"LockedToAnothersModel", "judged", "(I)I"⟩, 42) := ⟨⟨by decide +kernel, by decide +kernel⟩, List.mem_of_getElem? (i := 907) (by decide +kernel), List.mem_of_getElem? (i := 1382) (by decide +kernel), List.mem_of_getElem? (i := 1383) (by decide +kernel)⟩
theorem lw_p70 : lw_okq (⟨"LockedToAnothersModel", "livesBy", "(I)V"⟩, 42) := ⟨⟨by decide +kernel, by decide +kernel⟩, List.mem_of_getElem? (i := 907) (by decide +kernel), List.mem_of_getElem? (i := 1411) (by decide +kernel), List.mem_of_getElem? (i := 1412) (by decide +kernel)⟩
def lw_privs_5 : List (MethodName × Nat) := [(⟨"LockedToAnothersModel", "ever", "()I"⟩, 42), (⟨"LockedToAnothersModel", "offBy", "(II)I"⟩, 42), (⟨"LockedToAnothersModel", "fixedBy", "(I)I"⟩, 42), (⟨"LockedToAnothersModel", "theftOf", "(I)I"⟩, 42), (⟨"LockedToAnothersModel", "sheetWrong", "(I)I"⟩, 42), (⟨"LockedToAnothersModel", "judged", "(I)I"⟩, 42), (⟨"LockedToAnothersModel", "livesBy", "(I)V"⟩, 42)]
theorem lw_r5 : ∀ q ∈ lw_privs_5, lw_okq q := List.forall_mem_cons.mpr ⟨lw_p64, List.forall_mem_cons.mpr ⟨lw_p65, List.forall_mem_cons.mpr ⟨lw_p66, List.forall_mem_cons.mpr ⟨lw_p67, List.forall_mem_cons.mpr ⟨lw_p68, List.forall_mem_cons.mpr ⟨lw_p69, List.forall_mem_cons.mpr ⟨lw_p70, fun _ h => absurd h List.not_mem_nil⟩⟩⟩⟩⟩⟩⟩
def lw_privs : List (MethodName × Nat) := lw_privs_1 ++ (lw_privs_2 ++ (lw_privs_3 ++ (lw_privs_4 ++ (lw_privs_5))))
def lw_tbl : List Cond := k2_sels lw_privs ++ tables_1
theorem lw_privs_ok : ∀ q ∈ lw_privs, lw_okq q := by
  show ∀ q ∈ lw_privs_1 ++ (lw_privs_2 ++ (lw_privs_3 ++ (lw_privs_4 ++ (lw_privs_5)))), lw_okq q
  exact List.forall_mem_append.mpr ⟨lw_r1, List.forall_mem_append.mpr ⟨lw_r2, List.forall_mem_append.mpr ⟨lw_r3, List.forall_mem_append.mpr ⟨lw_r4, lw_r5⟩⟩⟩⟩
-- ===== names, out of the printed NAMES text =====
def RX0 : String := "LockedToAnothers$Day"
def TX0 : u_T := fun k => match k with
  | 0 => ("LockedToAnothers$Day", "rail", "LLockedToAnothers$Rail;", true)
  | _ => ("LockedToAnothers$Day", "goesAt", "[I", true)
def tyX0 : Nat → FieldType := fun k => match k with
  | 0 => .object "LockedToAnothers$Rail"
  | _ => .array .int
abbrev wsX00 : List Cond := u_ws RX0 TX0 2
theorem nmX0 : ∀ a, a < 2 → ∀ b, b < 2 → a ≠ b → (TX0 a).2.1 ≠ (TX0 b).2.1 := by decide +kernel
theorem tyX0_ok : ∀ k, k < 2 → parseFieldDescriptor (TX0 k).2.2.1 = some (tyX0 k) := by decide +kernel
abbrev cX0_init : ByteArray := prog_2_method_1_code
def yX0_init : MethodName := ⟨RX0, "<init>", "(LLockedToAnothers$Rail;)V"⟩
abbrev cX0_run : ByteArray := prog_2_method_2_code
def yX0_run : MethodName := ⟨RX0, "run", "([I)V"⟩
abbrev cX0_willingIn : ByteArray := prog_2_method_3_code
def yX0_willingIn : MethodName := ⟨RX0, "willingIn", "(I[I)I"⟩
abbrev cX0_write : ByteArray := prog_2_method_4_code
def yX0_write : MethodName := ⟨RX0, "write", "(II)V"⟩
abbrev cX0_draw : ByteArray := prog_2_method_5_code
def yX0_draw : MethodName := ⟨RX0, "draw", "(I[I)V"⟩
def RX1 : String := "LockedToAnothers$Kinds"
def TX1 : u_T := fun k => match k with
  | _ => ("", "", "", false)
def tyX1 : Nat → FieldType := fun k => match k with
  | _ => .int
abbrev wsX10 : List Cond := u_ws RX1 TX1 0
theorem nmX1 : ∀ a, a < 0 → ∀ b, b < 0 → a ≠ b → (TX1 a).2.1 ≠ (TX1 b).2.1 := by decide +kernel
theorem tyX1_ok : ∀ k, k < 0 → parseFieldDescriptor (TX1 k).2.2.1 = some (tyX1 k) := by decide +kernel
abbrev cX1_isHeld : ByteArray := prog_3_method_2_code
def yX1_isHeld : MethodName := ⟨RX1, "isHeld", "(III)Z"⟩
abbrev cX1_offBy : ByteArray := prog_3_method_3_code
def yX1_offBy : MethodName := ⟨RX1, "offBy", "(III)I"⟩
abbrev cX1_goesIn : ByteArray := prog_3_method_4_code
def yX1_goesIn : MethodName := ⟨RX1, "goesIn", "(III)Z"⟩
abbrev cX1_everGoes : ByteArray := prog_3_method_5_code
def yX1_everGoes : MethodName := ⟨RX1, "everGoes", "(II)Z"⟩
abbrev cX1_isOne : ByteArray := prog_3_method_6_code
def yX1_isOne : MethodName := ⟨RX1, "isOne", "(II)Z"⟩
def RX2 : String := "LockedToAnothers$LawBook"
def TX2 : u_T := fun k => match k with
  | 0 => ("LockedToAnothers$LawBook", "tape", "LLockedToAnothers$Reader;", true)
  | 1 => ("LockedToAnothers$LawBook", "texts", "I", false)
  | 2 => ("LockedToAnothers$LawBook", "inForce", "I", false)
  | 3 => ("LockedToAnothers$LawBook", "rail", "LLockedToAnothers$Rail;", true)
  | 4 => ("LockedToAnothers$LawBook", "steps", "[[I", true)
  | 5 => ("LockedToAnothers$LawBook", "ends", "[[I", true)
  | 6 => ("LockedToAnothers$LawBook", "names", "[I", true)
  | _ => ("LockedToAnothers$LawBook", "stack", "[I", true)
def tyX2 : Nat → FieldType := fun k => match k with
  | 0 => .object "LockedToAnothers$Reader"
  | 1 => .int
  | 2 => .int
  | 3 => .object "LockedToAnothers$Rail"
  | 4 => .array (.array .int)
  | 5 => .array (.array .int)
  | 6 => .array .int
  | _ => .array .int
abbrev wsX20 : List Cond := u_ws RX2 TX2 8
theorem nmX2 : ∀ a, a < 8 → ∀ b, b < 8 → a ≠ b → (TX2 a).2.1 ≠ (TX2 b).2.1 := by decide +kernel
theorem tyX2_ok : ∀ k, k < 8 → parseFieldDescriptor (TX2 k).2.2.1 = some (tyX2 k) := by decide +kernel
abbrev cX2_init : ByteArray := prog_4_method_1_code
def yX2_init : MethodName := ⟨RX2, "<init>", "(LLockedToAnothers$Rail;)V"⟩
abbrev cX2_takeTape : ByteArray := prog_4_method_2_code
def yX2_takeTape : MethodName := ⟨RX2, "takeTape", "()Z"⟩
abbrev cX2_says : ByteArray := prog_4_method_3_code
def yX2_says : MethodName := ⟨RX2, "says", "(IIIII)I"⟩
abbrev cX2_sawing : ByteArray := prog_4_method_4_code
def yX2_sawing : MethodName := ⟨RX2, "sawing", "(II)I"⟩
abbrev cX2_prising : ByteArray := prog_4_method_5_code
def yX2_prising : MethodName := ⟨RX2, "prising", "(II)I"⟩
abbrev cX2_minding : ByteArray := prog_4_method_6_code
def yX2_minding : MethodName := ⟨RX2, "minding", "(II)I"⟩
abbrev cX2_worth : ByteArray := prog_4_method_7_code
def yX2_worth : MethodName := ⟨RX2, "worth", "(II)I"⟩
abbrev cX2_joined : ByteArray := prog_4_method_8_code
def yX2_joined : MethodName := ⟨RX2, "joined", "(III)I"⟩
abbrev cX2_truth : ByteArray := prog_4_method_9_code
def yX2_truth : MethodName := ⟨RX2, "truth", "(Z)I"⟩
def RX3 : String := "LockedToAnothers$Orders"
def TX3 : u_T := fun k => match k with
  | 0 => ("LockedToAnothers$Orders", "rail", "LLockedToAnothers$Rail;", true)
  | 1 => ("LockedToAnothers$Orders", "counts", "[I", true)
  | 2 => ("LockedToAnothers$Orders", "lasts", "[I", true)
  | _ => ("LockedToAnothers$Orders", "awaits", "[I", true)
def tyX3 : Nat → FieldType := fun k => match k with
  | 0 => .object "LockedToAnothers$Rail"
  | 1 => .array .int
  | 2 => .array .int
  | _ => .array .int
abbrev wsX30 : List Cond := u_ws RX3 TX3 4
theorem nmX3 : ∀ a, a < 4 → ∀ b, b < 4 → a ≠ b → (TX3 a).2.1 ≠ (TX3 b).2.1 := by decide +kernel
theorem tyX3_ok : ∀ k, k < 4 → parseFieldDescriptor (TX3 k).2.2.1 = some (tyX3 k) := by decide +kernel
abbrev cX3_init : ByteArray := prog_5_method_1_code
def yX3_init : MethodName := ⟨RX3, "<init>", "(LLockedToAnothers$Rail;)V"⟩
abbrev cX3_leadingTo : ByteArray := prog_5_method_2_code
def yX3_leadingTo : MethodName := ⟨RX3, "leadingTo", "(I)I"⟩
abbrev cX3_countAll : ByteArray := prog_5_method_3_code
def yX3_countAll : MethodName := ⟨RX3, "countAll", "()V"⟩
abbrev cX3_goneAhead : ByteArray := prog_5_method_4_code
def yX3_goneAhead : MethodName := ⟨RX3, "goneAhead", "(I)I"⟩
abbrev cX3_fewestAhead : ByteArray := prog_5_method_5_code
def yX3_fewestAhead : MethodName := ⟨RX3, "fewestAhead", "(I)I"⟩
abbrev cX3_smallestRing : ByteArray := prog_5_method_6_code
def yX3_smallestRing : MethodName := ⟨RX3, "smallestRing", "(I)I"⟩
abbrev cX3_lengthenRows : ByteArray := prog_5_method_7_code
def yX3_lengthenRows : MethodName := ⟨RX3, "lengthenRows", "(II)Z"⟩
def RX4 : String := "LockedToAnothers$Rail"
def TX4 : u_T := fun k => match k with
  | 0 => ("LockedToAnothers$Rail", "things", "I", false)
  | 1 => ("LockedToAnothers$Rail", "gone", "I", false)
  | 2 => ("LockedToAnothers$Rail", "locks", "I", false)
  | 3 => ("LockedToAnothers$Rail", "sawn", "I", false)
  | 4 => ("LockedToAnothers$Rail", "ever", "I", false)
  | 5 => ("LockedToAnothers$Rail", "kindOf", "[I", true)
  | 6 => ("LockedToAnothers$Rail", "mores", "[I", true)
  | 7 => ("LockedToAnothers$Rail", "hours", "[I", true)
  | 8 => ("LockedToAnothers$Rail", "owners", "[I", true)
  | 9 => ("LockedToAnothers$Rail", "sorts", "[I", true)
  | 10 => ("LockedToAnothers$Rail", "sets", "[I", true)
  | _ => ("LockedToAnothers$Rail", "grips", "[I", true)
def tyX4 : Nat → FieldType := fun k => match k with
  | 0 => .int
  | 1 => .int
  | 2 => .int
  | 3 => .int
  | 4 => .int
  | 5 => .array .int
  | 6 => .array .int
  | 7 => .array .int
  | 8 => .array .int
  | 9 => .array .int
  | 10 => .array .int
  | _ => .array .int
abbrev wsX40 : List Cond := u_ws RX4 TX4 12
theorem nmX4 : ∀ a, a < 12 → ∀ b, b < 12 → a ≠ b → (TX4 a).2.1 ≠ (TX4 b).2.1 := by decide +kernel
theorem tyX4_ok : ∀ k, k < 12 → parseFieldDescriptor (TX4 k).2.2.1 = some (tyX4 k) := by decide +kernel
abbrev cX4_init : ByteArray := prog_6_method_1_code
def yX4_init : MethodName := ⟨RX4, "<init>", "()V"⟩
abbrev cX4_isThing : ByteArray := prog_6_method_2_code
def yX4_isThing : MethodName := ⟨RX4, "isThing", "(I)Z"⟩
abbrev cX4_isLock : ByteArray := prog_6_method_3_code
def yX4_isLock : MethodName := ⟨RX4, "isLock", "(I)Z"⟩
abbrev cX4_isGone : ByteArray := prog_6_method_4_code
def yX4_isGone : MethodName := ⟨RX4, "isGone", "(I)Z"⟩
abbrev cX4_isThere : ByteArray := prog_6_method_5_code
def yX4_isThere : MethodName := ⟨RX4, "isThere", "(I)Z"⟩
abbrev cX4_isShut : ByteArray := prog_6_method_6_code
def yX4_isShut : MethodName := ⟨RX4, "isShut", "(I)Z"⟩
abbrev cX4_isThrough : ByteArray := prog_6_method_7_code
def yX4_isThrough : MethodName := ⟨RX4, "isThrough", "(I)Z"⟩
abbrev cX4_allThings : ByteArray := prog_6_method_8_code
def yX4_allThings : MethodName := ⟨RX4, "allThings", "()I"⟩
abbrev cX4_addThing : ByteArray := prog_6_method_9_code
def yX4_addThing : MethodName := ⟨RX4, "addThing", "(III)V"⟩
abbrev cX4_putKind : ByteArray := prog_6_method_10_code
def yX4_putKind : MethodName := ⟨RX4, "putKind", "(II)V"⟩
abbrev cX4_addLock : ByteArray := prog_6_method_11_code
def yX4_addLock : MethodName := ⟨RX4, "addLock", "(III)V"⟩
abbrev cX4_dropLastLock : ByteArray := prog_6_method_12_code
def yX4_dropLastLock : MethodName := ⟨RX4, "dropLastLock", "()V"⟩
abbrev cX4_putSort : ByteArray := prog_6_method_13_code
def yX4_putSort : MethodName := ⟨RX4, "putSort", "(II)V"⟩
abbrev cX4_putSet : ByteArray := prog_6_method_14_code
def yX4_putSet : MethodName := ⟨RX4, "putSet", "(II)V"⟩
abbrev cX4_regrip : ByteArray := prog_6_method_15_code
def yX4_regrip : MethodName := ⟨RX4, "regrip", "(I)V"⟩
abbrev cX4_isFixing : ByteArray := prog_6_method_16_code
def yX4_isFixing : MethodName := ⟨RX4, "isFixing", "(II)Z"⟩
abbrev cX4_fixers : ByteArray := prog_6_method_17_code
def yX4_fixers : MethodName := ⟨RX4, "fixers", "(I)I"⟩
abbrev cX4_holders : ByteArray := prog_6_method_18_code
def yX4_holders : MethodName := ⟨RX4, "holders", "(I)I"⟩
abbrev cX4_awaited : ByteArray := prog_6_method_19_code
def yX4_awaited : MethodName := ⟨RX4, "awaited", "(I)I"⟩
abbrev cX4_canGo : ByteArray := prog_6_method_20_code
def yX4_canGo : MethodName := ⟨RX4, "canGo", "(II)I"⟩
abbrev cX4_goneAtLast : ByteArray := prog_6_method_21_code
def yX4_goneAtLast : MethodName := ⟨RX4, "goneAtLast", "(I)I"⟩
abbrev cX4_becomeLike : ByteArray := prog_6_method_22_code
def yX4_becomeLike : MethodName := ⟨RX4, "becomeLike", "(LLockedToAnothers$Rail;)V"⟩
def RX5 : String := "LockedToAnothers$Reader"
def TX5 : u_T := fun k => match k with
  | 0 => ("LockedToAnothers$Reader", "size", "I", false)
  | 1 => ("LockedToAnothers$Reader", "place", "I", false)
  | 2 => ("LockedToAnothers$Reader", "behind", "I", false)
  | 3 => ("LockedToAnothers$Reader", "token", "I", false)
  | 4 => ("LockedToAnothers$Reader", "value", "I", false)
  | 5 => ("LockedToAnothers$Reader", "faulty", "Z", false)
  | 6 => ("LockedToAnothers$Reader", "written", "I", false)
  | 7 => ("LockedToAnothers$Reader", "steps", "[I", false)
  | _ => ("LockedToAnothers$Reader", "bytes", "[I", true)
def tyX5 : Nat → FieldType := fun k => match k with
  | 0 => .int
  | 1 => .int
  | 2 => .int
  | 3 => .int
  | 4 => .int
  | 5 => .boolean
  | 6 => .int
  | 7 => .array .int
  | _ => .array .int
abbrev wsX50 : List Cond := u_ws RX5 TX5 9
theorem nmX5 : ∀ a, a < 9 → ∀ b, b < 9 → a ≠ b → (TX5 a).2.1 ≠ (TX5 b).2.1 := by decide +kernel
theorem tyX5_ok : ∀ k, k < 9 → parseFieldDescriptor (TX5 k).2.2.1 = some (tyX5 k) := by decide +kernel
abbrev cX5_init : ByteArray := prog_7_method_1_code
def yX5_init : MethodName := ⟨RX5, "<init>", "()V"⟩
abbrev cX5_append : ByteArray := prog_7_method_2_code
def yX5_append : MethodName := ⟨RX5, "append", "(I)V"⟩
abbrev cX5_read : ByteArray := prog_7_method_3_code
def yX5_read : MethodName := ⟨RX5, "read", "([I[I)Z"⟩
abbrev cX5_refuse : ByteArray := prog_7_method_4_code
def yX5_refuse : MethodName := ⟨RX5, "refuse", "()V"⟩
abbrev cX5_demand : ByteArray := prog_7_method_5_code
def yX5_demand : MethodName := ⟨RX5, "demand", "(I)V"⟩
abbrev cX5_write : ByteArray := prog_7_method_6_code
def yX5_write : MethodName := ⟨RX5, "write", "(I)V"⟩
abbrev cX5_expression : ByteArray := prog_7_method_7_code
def yX5_expression : MethodName := ⟨RX5, "expression", "(II)V"⟩
abbrev cX5_joiner : ByteArray := prog_7_method_8_code
def yX5_joiner : MethodName := ⟨RX5, "joiner", "(I)I"⟩
abbrev cX5_one : ByteArray := prog_7_method_9_code
def yX5_one : MethodName := ⟨RX5, "one", "(I)V"⟩
abbrev cX5_advance : ByteArray := prog_7_method_10_code
def yX5_advance : MethodName := ⟨RX5, "advance", "()V"⟩
abbrev cX5_scanWord : ByteArray := prog_7_method_11_code
def yX5_scanWord : MethodName := ⟨RX5, "scanWord", "()I"⟩
abbrev cX5_scanNumber : ByteArray := prog_7_method_12_code
def yX5_scanNumber : MethodName := ⟨RX5, "scanNumber", "()I"⟩
abbrev cX5_wordNumber : ByteArray := prog_7_method_13_code
def yX5_wordNumber : MethodName := ⟨RX5, "wordNumber", "()I"⟩
abbrev cX5_isIn : ByteArray := prog_7_method_14_code
def yX5_isIn : MethodName := ⟨RX5, "isIn", "(ICC)Z"⟩
def RX6 : String := "LockedToAnothers$Sheet"
def TX6 : u_T := fun k => match k with
  | 0 => ("LockedToAnothers$Sheet", "sort", "I", false)
  | 1 => ("LockedToAnothers$Sheet", "size", "I", false)
  | _ => ("LockedToAnothers$Sheet", "numbers", "[I", true)
def tyX6 : Nat → FieldType := fun k => match k with
  | 0 => .int
  | 1 => .int
  | _ => .array .int
abbrev wsX60 : List Cond := u_ws RX6 TX6 3
theorem nmX6 : ∀ a, a < 3 → ∀ b, b < 3 → a ≠ b → (TX6 a).2.1 ≠ (TX6 b).2.1 := by decide +kernel
theorem tyX6_ok : ∀ k, k < 3 → parseFieldDescriptor (TX6 k).2.2.1 = some (tyX6 k) := by decide +kernel
abbrev cX6_init : ByteArray := prog_8_method_1_code
def yX6_init : MethodName := ⟨RX6, "<init>", "()V"⟩
abbrev cX6_isMissing : ByteArray := prog_8_method_2_code
def yX6_isMissing : MethodName := ⟨RX6, "isMissing", "()Z"⟩
abbrev cX6_isPlace : ByteArray := prog_8_method_3_code
def yX6_isPlace : MethodName := ⟨RX6, "isPlace", "(I)Z"⟩
abbrev cX6_isStretch : ByteArray := prog_8_method_4_code
def yX6_isStretch : MethodName := ⟨RX6, "isStretch", "(II)Z"⟩
abbrev cX6_become : ByteArray := prog_8_method_5_code
def yX6_become : MethodName := ⟨RX6, "become", "(II)V"⟩
abbrev cX6_put : ByteArray := prog_8_method_6_code
def yX6_put : MethodName := ⟨RX6, "put", "(II)V"⟩
def RX7 : String := "LockedToAnothers"
def TX7 : u_T := fun k => match k with
  | 0 => ("LockedToAnothers", "rail", "LLockedToAnothers$Rail;", true)
  | 1 => ("LockedToAnothers", "kept", "LLockedToAnothers$Rail;", true)
  | 2 => ("LockedToAnothers", "book", "LLockedToAnothers$LawBook;", true)
  | 3 => ("LockedToAnothers", "orders", "LLockedToAnothers$Orders;", true)
  | 4 => ("LockedToAnothers", "today", "LLockedToAnothers$Day;", true)
  | 5 => ("LockedToAnothers", "sheets", "[LLockedToAnothers$Sheet;", true)
  | 6 => ("LockedToAnothers", "coming", "[I", true)
  | 7 => ("LockedToAnothers", "prices", "[I", true)
  | 8 => ("LockedToAnothers", "imaged", "Z", false)
  | _ => ("LockedToAnothers", "keptLaw", "I", false)
def tyX7 : Nat → FieldType := fun k => match k with
  | 0 => .object "LockedToAnothers$Rail"
  | 1 => .object "LockedToAnothers$Rail"
  | 2 => .object "LockedToAnothers$LawBook"
  | 3 => .object "LockedToAnothers$Orders"
  | 4 => .object "LockedToAnothers$Day"
  | 5 => .array (.object "LockedToAnothers$Sheet")
  | 6 => .array .int
  | 7 => .array .int
  | 8 => .boolean
  | _ => .int
abbrev wsX70 : List Cond := u_ws RX7 TX7 10
theorem nmX7 : ∀ a, a < 10 → ∀ b, b < 10 → a ≠ b → (TX7 a).2.1 ≠ (TX7 b).2.1 := by decide +kernel
theorem tyX7_ok : ∀ k, k < 10 → parseFieldDescriptor (TX7 k).2.2.1 = some (tyX7 k) := by decide +kernel
abbrev cX7_init : ByteArray := prog_1_method_1_code
def yX7_init : MethodName := ⟨RX7, "<init>", "()V"⟩
abbrev cX7_count : ByteArray := prog_1_method_2_code
def yX7_count : MethodName := ⟨RX7, "count", "(I)I"⟩
abbrev cX7_feed : ByteArray := prog_1_method_3_code
def yX7_feed : MethodName := ⟨RX7, "feed", "(IIIIII)I"⟩
abbrev cX7_text : ByteArray := prog_1_method_4_code
def yX7_text : MethodName := ⟨RX7, "text", "()I"⟩
abbrev cX7_force : ByteArray := prog_1_method_5_code
def yX7_force : MethodName := ⟨RX7, "force", "(I)I"⟩
abbrev cX7_asks : ByteArray := prog_1_method_6_code
def yX7_asks : MethodName := ⟨RX7, "asks", "(IIII)I"⟩
abbrev cX7_thing : ByteArray := prog_1_method_7_code
def yX7_thing : MethodName := ⟨RX7, "thing", "(III)I"⟩
abbrev cX7_come : ByteArray := prog_1_method_8_code
def yX7_come : MethodName := ⟨RX7, "come", "(II)I"⟩
abbrev cX7_told : ByteArray := prog_1_method_9_code
def yX7_told : MethodName := ⟨RX7, "told", "(II)I"⟩
abbrev cX7_lock : ByteArray := prog_1_method_10_code
def yX7_lock : MethodName := ⟨RX7, "lock", "(III)I"⟩
abbrev cX7_relock : ByteArray := prog_1_method_11_code
def yX7_relock : MethodName := ⟨RX7, "relock", "(III)I"⟩
abbrev cX7_lockTold : ByteArray := prog_1_method_12_code
def yX7_lockTold : MethodName := ⟨RX7, "lockTold", "(II)I"⟩
abbrev cX7_holds : ByteArray := prog_1_method_13_code
def yX7_holds : MethodName := ⟨RX7, "holds", "(I)I"⟩
abbrev cX7_free : ByteArray := prog_1_method_14_code
def yX7_free : MethodName := ⟨RX7, "free", "()I"⟩
abbrev cX7_go : ByteArray := prog_1_method_15_code
def yX7_go : MethodName := ⟨RX7, "go", "(I)I"⟩
abbrev cX7_saw : ByteArray := prog_1_method_16_code
def yX7_saw : MethodName := ⟨RX7, "saw", "(I)I"⟩
abbrev cX7_waits : ByteArray := prog_1_method_17_code
def yX7_waits : MethodName := ⟨RX7, "waits", "(I)I"⟩
abbrev cX7_never : ByteArray := prog_1_method_18_code
def yX7_never : MethodName := ⟨RX7, "never", "()I"⟩
abbrev cX7_first : ByteArray := prog_1_method_19_code
def yX7_first : MethodName := ⟨RX7, "first", "(II)I"⟩
abbrev cX7_ring : ByteArray := prog_1_method_20_code
def yX7_ring : MethodName := ⟨RX7, "ring", "(II)I"⟩
abbrev cX7_rows : ByteArray := prog_1_method_21_code
def yX7_rows : MethodName := ⟨RX7, "rows", "(I)J"⟩
abbrev cX7_ways : ByteArray := prog_1_method_22_code
def yX7_ways : MethodName := ⟨RX7, "ways", "()J"⟩
abbrev cX7_row : ByteArray := prog_1_method_23_code
def yX7_row : MethodName := ⟨RX7, "row", "()I"⟩
abbrev cX7_hour : ByteArray := prog_1_method_24_code
def yX7_hour : MethodName := ⟨RX7, "hour", "(I)I"⟩
abbrev cX7_day : ByteArray := prog_1_method_25_code
def yX7_day : MethodName := ⟨RX7, "day", "(I)I"⟩
abbrev cX7_pass : ByteArray := prog_1_method_26_code
def yX7_pass : MethodName := ⟨RX7, "pass", "(I)I"⟩
abbrev cX7_sawFor : ByteArray := prog_1_method_27_code
def yX7_sawFor : MethodName := ⟨RX7, "sawFor", "(II)I"⟩
abbrev cX7_sawAll : ByteArray := prog_1_method_28_code
def yX7_sawAll : MethodName := ⟨RX7, "sawAll", "(I)I"⟩
abbrev cX7_keys : ByteArray := prog_1_method_29_code
def yX7_keys : MethodName := ⟨RX7, "keys", "(I)I"⟩
abbrev cX7_note : ByteArray := prog_1_method_30_code
def yX7_note : MethodName := ⟨RX7, "note", "(II)I"⟩
abbrev cX7_out : ByteArray := prog_1_method_31_code
def yX7_out : MethodName := ⟨RX7, "out", "(I)I"⟩
abbrev cX7_steals : ByteArray := prog_1_method_32_code
def yX7_steals : MethodName := ⟨RX7, "steals", "()I"⟩
abbrev cX7_theft : ByteArray := prog_1_method_33_code
def yX7_theft : MethodName := ⟨RX7, "theft", "(I)I"⟩
abbrev cX7_loot : ByteArray := prog_1_method_34_code
def yX7_loot : MethodName := ⟨RX7, "loot", "(I)I"⟩
abbrev cX7_guard : ByteArray := prog_1_method_35_code
def yX7_guard : MethodName := ⟨RX7, "guard", "(III)I"⟩
abbrev cX7_judge : ByteArray := prog_1_method_36_code
def yX7_judge : MethodName := ⟨RX7, "judge", "(I)I"⟩
abbrev cX7_whose : ByteArray := prog_1_method_37_code
def yX7_whose : MethodName := ⟨RX7, "whose", "(III)I"⟩
abbrev cX7_kinds : ByteArray := prog_1_method_38_code
def yX7_kinds : MethodName := ⟨RX7, "kinds", "(II)I"⟩
abbrev cX7_laws : ByteArray := prog_1_method_39_code
def yX7_laws : MethodName := ⟨RX7, "laws", "(I)I"⟩
abbrev cX7_film : ByteArray := prog_1_method_40_code
def yX7_film : MethodName := ⟨RX7, "film", "(I)I"⟩
abbrev cX7_seen : ByteArray := prog_1_method_41_code
def yX7_seen : MethodName := ⟨RX7, "seen", "(I)I"⟩
abbrev cX7_drawn : ByteArray := prog_1_method_42_code
def yX7_drawn : MethodName := ⟨RX7, "drawn", "(II)I"⟩
abbrev cX7_odds : ByteArray := prog_1_method_43_code
def yX7_odds : MethodName := ⟨RX7, "odds", "(IIII)J"⟩
abbrev cX7_image : ByteArray := prog_1_method_44_code
def yX7_image : MethodName := ⟨RX7, "image", "()I"⟩
abbrev cX7_back : ByteArray := prog_1_method_45_code
def yX7_back : MethodName := ⟨RX7, "back", "()I"⟩
abbrev cX7_sheet : ByteArray := prog_1_method_46_code
def yX7_sheet : MethodName := ⟨RX7, "sheet", "(III)I"⟩
abbrev cX7_cell : ByteArray := prog_1_method_47_code
def yX7_cell : MethodName := ⟨RX7, "cell", "(III)I"⟩
abbrev cX7_copy : ByteArray := prog_1_method_48_code
def yX7_copy : MethodName := ⟨RX7, "copy", "(IIIII)I"⟩
abbrev cX7_locksBy : ByteArray := prog_1_method_49_code
def yX7_locksBy : MethodName := ⟨RX7, "locksBy", "(IIII)I"⟩
abbrev cX7_taken : ByteArray := prog_1_method_50_code
def yX7_taken : MethodName := ⟨RX7, "taken", "(II)I"⟩
abbrev cX7_has : ByteArray := prog_1_method_51_code
def yX7_has : MethodName := ⟨RX7, "has", "(II)Z"⟩
abbrev cX7_leastOf : ByteArray := prog_1_method_52_code
def yX7_leastOf : MethodName := ⟨RX7, "leastOf", "(I)I"⟩
abbrev cX7_isByte : ByteArray := prog_1_method_53_code
def yX7_isByte : MethodName := ⟨RX7, "isByte", "(I)Z"⟩
abbrev cX7_isEither : ByteArray := prog_1_method_54_code
def yX7_isEither : MethodName := ⟨RX7, "isEither", "(I)Z"⟩
abbrev cX7_isHour : ByteArray := prog_1_method_55_code
def yX7_isHour : MethodName := ⟨RX7, "isHour", "(I)Z"⟩
abbrev cX7_isKind : ByteArray := prog_1_method_56_code
def yX7_isKind : MethodName := ⟨RX7, "isKind", "(I)Z"⟩
abbrev cX7_isSort : ByteArray := prog_1_method_57_code
def yX7_isSort : MethodName := ⟨RX7, "isSort", "(I)Z"⟩
abbrev cX7_isSheet : ByteArray := prog_1_method_58_code
def yX7_isSheet : MethodName := ⟨RX7, "isSheet", "(I)Z"⟩
abbrev cX7_refusalOf : ByteArray := prog_1_method_59_code
def yX7_refusalOf : MethodName := ⟨RX7, "refusalOf", "(I)I"⟩
abbrev cX7_badness : ByteArray := prog_1_method_60_code
def yX7_badness : MethodName := ⟨RX7, "badness", "()I"⟩
abbrev cX7_cheapestSaws : ByteArray := prog_1_method_61_code
def yX7_cheapestSaws : MethodName := ⟨RX7, "cheapestSaws", "(II)I"⟩
abbrev cX7_priceOf : ByteArray := prog_1_method_62_code
def yX7_priceOf : MethodName := ⟨RX7, "priceOf", "(I)I"⟩
abbrev cX7_toSteal : ByteArray := prog_1_method_63_code
def yX7_toSteal : MethodName := ⟨RX7, "toSteal", "(I)I"⟩
abbrev cX7_firstWrong : ByteArray := prog_1_method_64_code
def yX7_firstWrong : MethodName := ⟨RX7, "firstWrong", "(LLockedToAnothers$Sheet;)I"⟩
abbrev cX7_ownersBy : ByteArray := prog_1_method_65_code
def yX7_ownersBy : MethodName := ⟨RX7, "ownersBy", "(LLockedToAnothers$Sheet;I)I"⟩
abbrev cX7_sortsBy : ByteArray := prog_1_method_66_code
def yX7_sortsBy : MethodName := ⟨RX7, "sortsBy", "(LLockedToAnothers$Sheet;I)I"⟩
abbrev cX7_sawsAreSo : ByteArray := prog_1_method_67_code
def yX7_sawsAreSo : MethodName := ⟨RX7, "sawsAreSo", "(LLockedToAnothers$Sheet;I)Z"⟩
abbrev cX7_commonDivisor : ByteArray := prog_1_method_68_code
def yX7_commonDivisor : MethodName := ⟨RX7, "commonDivisor", "(II)I"⟩
def RX8 : String := "LockedToAnothersModel"
def TX8 : u_T := fun k => match k with
  | 0 => ("LockedToAnothersModel", "things", "I", false)
  | 1 => ("LockedToAnothersModel", "kind", "[I", true)
  | 2 => ("LockedToAnothersModel", "moreOf", "[I", true)
  | 3 => ("LockedToAnothersModel", "comes", "[I", true)
  | 4 => ("LockedToAnothersModel", "gone", "I", false)
  | 5 => ("LockedToAnothersModel", "locks", "I", false)
  | 6 => ("LockedToAnothersModel", "lockOf", "[I", true)
  | 7 => ("LockedToAnothersModel", "sawn", "I", false)
  | 8 => ("LockedToAnothersModel", "tape", "[I", true)
  | 9 => ("LockedToAnothersModel", "taped", "I", false)
  | 10 => ("LockedToAnothersModel", "codes", "[I", true)
  | 11 => ("LockedToAnothersModel", "starts", "[I", true)
  | 12 => ("LockedToAnothersModel", "texts", "I", false)
  | 13 => ("LockedToAnothersModel", "rule", "I", false)
  | 14 => ("LockedToAnothersModel", "hasImage", "Z", false)
  | 15 => ("LockedToAnothersModel", "imageThings", "I", false)
  | 16 => ("LockedToAnothersModel", "imageLocks", "I", false)
  | 17 => ("LockedToAnothersModel", "imageGone", "I", false)
  | 18 => ("LockedToAnothersModel", "imageSawn", "I", false)
  | 19 => ("LockedToAnothersModel", "imageRule", "I", false)
  | 20 => ("LockedToAnothersModel", "imageRows", "[I", true)
  | 21 => ("LockedToAnothersModel", "sheetSort", "[I", true)
  | 22 => ("LockedToAnothersModel", "sheetSize", "[I", true)
  | 23 => ("LockedToAnothersModel", "cells", "[I", true)
  | 24 => ("LockedToAnothersModel", "law", "[I", true)
  | 25 => ("LockedToAnothersModel", "at", "I", false)
  | 26 => ("LockedToAnothersModel", "begun", "I", false)
  | 27 => ("LockedToAnothersModel", "token", "I", false)
  | 28 => ("LockedToAnothersModel", "value", "I", false)
  | 29 => ("LockedToAnothersModel", "words", "[I", true)
  | 30 => ("LockedToAnothersModel", "held", "[I", true)
  | 31 => ("LockedToAnothersModel", "heldMany", "I", false)
  | 32 => ("LockedToAnothersModel", "opens", "I", false)
  | 33 => ("LockedToAnothersModel", "out", "I", false)
  | 34 => ("LockedToAnothersModel", "stack", "[I", true)
  | 35 => ("LockedToAnothersModel", "named", "[I", true)
  | 36 => ("LockedToAnothersModel", "orders", "[J", true)
  | 37 => ("LockedToAnothersModel", "ends", "[I", true)
  | 38 => ("LockedToAnothersModel", "hourOf", "[I", true)
  | 39 => ("LockedToAnothersModel", "price", "[I", true)
  | 40 => ("LockedToAnothersModel", "leastCost", "I", false)
  | _ => ("LockedToAnothersModel", "keptHour", "[I", true)
def tyX8 : Nat → FieldType := fun k => match k with
  | 0 => .int
  | 1 => .array .int
  | 2 => .array .int
  | 3 => .array .int
  | 4 => .int
  | 5 => .int
  | 6 => .array .int
  | 7 => .int
  | 8 => .array .int
  | 9 => .int
  | 10 => .array .int
  | 11 => .array .int
  | 12 => .int
  | 13 => .int
  | 14 => .boolean
  | 15 => .int
  | 16 => .int
  | 17 => .int
  | 18 => .int
  | 19 => .int
  | 20 => .array .int
  | 21 => .array .int
  | 22 => .array .int
  | 23 => .array .int
  | 24 => .array .int
  | 25 => .int
  | 26 => .int
  | 27 => .int
  | 28 => .int
  | 29 => .array .int
  | 30 => .array .int
  | 31 => .int
  | 32 => .int
  | 33 => .int
  | 34 => .array .int
  | 35 => .array .int
  | 36 => .array .long
  | 37 => .array .int
  | 38 => .array .int
  | 39 => .array .int
  | 40 => .int
  | _ => .array .int
abbrev wsX80 : List Cond := u_ws RX8 TX8 42
theorem nmX8 : ∀ a, a < 42 → ∀ b, b < 42 → a ≠ b → (TX8 a).2.1 ≠ (TX8 b).2.1 := by decide +kernel
theorem tyX8_ok : ∀ k, k < 42 → parseFieldDescriptor (TX8 k).2.2.1 = some (tyX8 k) := by decide +kernel
abbrev cX8_init : ByteArray := prog_10_method_1_code
def yX8_init : MethodName := ⟨RX8, "<init>", "()V"⟩
abbrev cX8_in : ByteArray := prog_10_method_3_code
def yX8_in : MethodName := ⟨RX8, "in", "(III)Z"⟩
abbrev cX8_within : ByteArray := prog_10_method_4_code
def yX8_within : MethodName := ⟨RX8, "within", "(III)I"⟩
abbrev cX8_ones : ByteArray := prog_10_method_5_code
def yX8_ones : MethodName := ⟨RX8, "ones", "(I)I"⟩
abbrev cX8_isThing : ByteArray := prog_10_method_6_code
def yX8_isThing : MethodName := ⟨RX8, "isThing", "(I)Z"⟩
abbrev cX8_isLock : ByteArray := prog_10_method_7_code
def yX8_isLock : MethodName := ⟨RX8, "isLock", "(I)Z"⟩
abbrev cX8_isGone : ByteArray := prog_10_method_8_code
def yX8_isGone : MethodName := ⟨RX8, "isGone", "(I)Z"⟩
abbrev cX8_everything : ByteArray := prog_10_method_9_code
def yX8_everything : MethodName := ⟨RX8, "everything", "()I"⟩
abbrev cX8_owner : ByteArray := prog_10_method_10_code
def yX8_owner : MethodName := ⟨RX8, "owner", "(I)I"⟩
abbrev cX8_sortOf : ByteArray := prog_10_method_11_code
def yX8_sortOf : MethodName := ⟨RX8, "sortOf", "(I)I"⟩
abbrev cX8_through : ByteArray := prog_10_method_12_code
def yX8_through : MethodName := ⟨RX8, "through", "(I)I"⟩
abbrev cX8_isHour : ByteArray := prog_10_method_13_code
def yX8_isHour : MethodName := ⟨RX8, "isHour", "(I)Z"⟩
abbrev cX8_count : ByteArray := prog_10_method_14_code
def yX8_count : MethodName := ⟨RX8, "count", "(I)I"⟩
abbrev cX8_isByte : ByteArray := prog_10_method_15_code
def yX8_isByte : MethodName := ⟨RX8, "isByte", "(I)Z"⟩
abbrev cX8_feed : ByteArray := prog_10_method_16_code
def yX8_feed : MethodName := ⟨RX8, "feed", "(IIIIII)I"⟩
abbrev cX8_wordFrom : ByteArray := prog_10_method_17_code
def yX8_wordFrom : MethodName := ⟨RX8, "wordFrom", "(II)I"⟩
abbrev cX8_next : ByteArray := prog_10_method_18_code
def yX8_next : MethodName := ⟨RX8, "next", "()V"⟩
abbrev cX8_rank : ByteArray := prog_10_method_19_code
def yX8_rank : MethodName := ⟨RX8, "rank", "(I)I"⟩
abbrev cX8_puts : ByteArray := prog_10_method_20_code
def yX8_puts : MethodName := ⟨RX8, "puts", "(I)V"⟩
abbrev cX8_unwinds : ByteArray := prog_10_method_21_code
def yX8_unwinds : MethodName := ⟨RX8, "unwinds", "(I)V"⟩
abbrev cX8_holdsThat : ByteArray := prog_10_method_22_code
def yX8_holdsThat : MethodName := ⟨RX8, "holdsThat", "(I)V"⟩
abbrev cX8_opensOne : ByteArray := prog_10_method_23_code
def yX8_opensOne : MethodName := ⟨RX8, "opensOne", "(I)Z"⟩
abbrev cX8_between : ByteArray := prog_10_method_24_code
def yX8_between : MethodName := ⟨RX8, "between", "(I)Z"⟩
abbrev cX8_signOf : ByteArray := prog_10_method_25_code
def yX8_signOf : MethodName := ⟨RX8, "signOf", "()I"⟩
abbrev cX8_eRead : ByteArray := prog_10_method_26_code
def yX8_eRead : MethodName := ⟨RX8, "eRead", "()Z"⟩
abbrev cX8_text : ByteArray := prog_10_method_27_code
def yX8_text : MethodName := ⟨RX8, "text", "()I"⟩
abbrev cX8_two : ByteArray := prog_10_method_28_code
def yX8_two : MethodName := ⟨RX8, "two", "(III)I"⟩
abbrev cX8_says : ByteArray := prog_10_method_29_code
def yX8_says : MethodName := ⟨RX8, "says", "(I)I"⟩
abbrev cX8_force : ByteArray := prog_10_method_30_code
def yX8_force : MethodName := ⟨RX8, "force", "(I)I"⟩
abbrev cX8_asksOf : ByteArray := prog_10_method_31_code
def yX8_asksOf : MethodName := ⟨RX8, "asksOf", "(IIII)I"⟩
abbrev cX8_asks : ByteArray := prog_10_method_32_code
def yX8_asks : MethodName := ⟨RX8, "asks", "(IIII)I"⟩
abbrev cX8_thing : ByteArray := prog_10_method_33_code
def yX8_thing : MethodName := ⟨RX8, "thing", "(III)I"⟩
abbrev cX8_come : ByteArray := prog_10_method_34_code
def yX8_come : MethodName := ⟨RX8, "come", "(II)I"⟩
abbrev cX8_told : ByteArray := prog_10_method_35_code
def yX8_told : MethodName := ⟨RX8, "told", "(II)I"⟩
abbrev cX8_areSome : ByteArray := prog_10_method_36_code
def yX8_areSome : MethodName := ⟨RX8, "areSome", "(I)Z"⟩
abbrev cX8_lock : ByteArray := prog_10_method_37_code
def yX8_lock : MethodName := ⟨RX8, "lock", "(III)I"⟩
abbrev cX8_relock : ByteArray := prog_10_method_38_code
def yX8_relock : MethodName := ⟨RX8, "relock", "(III)I"⟩
abbrev cX8_isSawn : ByteArray := prog_10_method_39_code
def yX8_isSawn : MethodName := ⟨RX8, "isSawn", "(I)Z"⟩
abbrev cX8_isShut : ByteArray := prog_10_method_40_code
def yX8_isShut : MethodName := ⟨RX8, "isShut", "(I)Z"⟩
abbrev cX8_lockTold : ByteArray := prog_10_method_41_code
def yX8_lockTold : MethodName := ⟨RX8, "lockTold", "(II)I"⟩
abbrev cX8_isHeldBySort : ByteArray := prog_10_method_42_code
def yX8_isHeldBySort : MethodName := ⟨RX8, "isHeldBySort", "(II)Z"⟩
abbrev cX8_offBy : ByteArray := prog_10_method_43_code
def yX8_offBy : MethodName := ⟨RX8, "offBy", "(II)I"⟩
abbrev cX8_goesIn : ByteArray := prog_10_method_44_code
def yX8_goesIn : MethodName := ⟨RX8, "goesIn", "(II)Z"⟩
abbrev cX8_fixes : ByteArray := prog_10_method_45_code
def yX8_fixes : MethodName := ⟨RX8, "fixes", "(II)Z"⟩
abbrev cX8_holdsNow : ByteArray := prog_10_method_46_code
def yX8_holdsNow : MethodName := ⟨RX8, "holdsNow", "(I)I"⟩
abbrev cX8_holds : ByteArray := prog_10_method_47_code
def yX8_holds : MethodName := ⟨RX8, "holds", "(I)I"⟩
abbrev cX8_canGo : ByteArray := prog_10_method_48_code
def yX8_canGo : MethodName := ⟨RX8, "canGo", "(I)Z"⟩
abbrev cX8_free : ByteArray := prog_10_method_49_code
def yX8_free : MethodName := ⟨RX8, "free", "()I"⟩
abbrev cX8_go : ByteArray := prog_10_method_50_code
def yX8_go : MethodName := ⟨RX8, "go", "(I)I"⟩
abbrev cX8_sawsOf : ByteArray := prog_10_method_51_code
def yX8_sawsOf : MethodName := ⟨RX8, "sawsOf", "(I)I"⟩
abbrev cX8_saw : ByteArray := prog_10_method_52_code
def yX8_saw : MethodName := ⟨RX8, "saw", "(I)I"⟩
abbrev cX8_waitsFor : ByteArray := prog_10_method_53_code
def yX8_waitsFor : MethodName := ⟨RX8, "waitsFor", "(I)I"⟩
abbrev cX8_waits : ByteArray := prog_10_method_54_code
def yX8_waits : MethodName := ⟨RX8, "waits", "(I)I"⟩
abbrev cX8_goneAtLast : ByteArray := prog_10_method_55_code
def yX8_goneAtLast : MethodName := ⟨RX8, "goneAtLast", "(I)I"⟩
abbrev cX8_never : ByteArray := prog_10_method_56_code
def yX8_never : MethodName := ⟨RX8, "never", "()I"⟩
abbrev cX8_countsOrders : ByteArray := prog_10_method_57_code
def yX8_countsOrders : MethodName := ⟨RX8, "countsOrders", "(I)V"⟩
abbrev cX8_isFreeBehind : ByteArray := prog_10_method_58_code
def yX8_isFreeBehind : MethodName := ⟨RX8, "isFreeBehind", "(II)Z"⟩
abbrev cX8_fewestFor : ByteArray := prog_10_method_59_code
def yX8_fewestFor : MethodName := ⟨RX8, "fewestFor", "(I)I"⟩
abbrev cX8_neededFor : ByteArray := prog_10_method_60_code
def yX8_neededFor : MethodName := ⟨RX8, "neededFor", "(I)I"⟩
abbrev cX8_first : ByteArray := prog_10_method_61_code
def yX8_first : MethodName := ⟨RX8, "first", "(II)I"⟩
abbrev cX8_ring : ByteArray := prog_10_method_62_code
def yX8_ring : MethodName := ⟨RX8, "ring", "(II)I"⟩
abbrev cX8_rows : ByteArray := prog_10_method_63_code
def yX8_rows : MethodName := ⟨RX8, "rows", "(I)J"⟩
abbrev cX8_ways : ByteArray := prog_10_method_64_code
def yX8_ways : MethodName := ⟨RX8, "ways", "()J"⟩
abbrev cX8_row : ByteArray := prog_10_method_65_code
def yX8_row : MethodName := ⟨RX8, "row", "()I"⟩
abbrev cX8_leastFree : ByteArray := prog_10_method_66_code
def yX8_leastFree : MethodName := ⟨RX8, "leastFree", "()I"⟩
abbrev cX8_round : ByteArray := prog_10_method_67_code
def yX8_round : MethodName := ⟨RX8, "round", "(I)Z"⟩
abbrev cX8_lives : ByteArray := prog_10_method_68_code
def yX8_lives : MethodName := ⟨RX8, "lives", "()V"⟩
abbrev cX8_hour : ByteArray := prog_10_method_69_code
def yX8_hour : MethodName := ⟨RX8, "hour", "(I)I"⟩
abbrev cX8_badness : ByteArray := prog_10_method_70_code
def yX8_badness : MethodName := ⟨RX8, "badness", "()I"⟩
abbrev cX8_day : ByteArray := prog_10_method_71_code
def yX8_day : MethodName := ⟨RX8, "day", "(I)I"⟩
abbrev cX8_pass : ByteArray := prog_10_method_72_code
def yX8_pass : MethodName := ⟨RX8, "pass", "(I)I"⟩
abbrev cX8_shutNow : ByteArray := prog_10_method_73_code
def yX8_shutNow : MethodName := ⟨RX8, "shutNow", "()I"⟩
abbrev cX8_sawsFor : ByteArray := prog_10_method_74_code
def yX8_sawsFor : MethodName := ⟨RX8, "sawsFor", "(I)I"⟩
abbrev cX8_sawFor : ByteArray := prog_10_method_75_code
def yX8_sawFor : MethodName := ⟨RX8, "sawFor", "(II)I"⟩
abbrev cX8_ever : ByteArray := prog_10_method_76_code
def yX8_ever : MethodName := ⟨RX8, "ever", "()I"⟩
abbrev cX8_sawAll : ByteArray := prog_10_method_77_code
def yX8_sawAll : MethodName := ⟨RX8, "sawAll", "(I)I"⟩
abbrev cX8_keys : ByteArray := prog_10_method_78_code
def yX8_keys : MethodName := ⟨RX8, "keys", "(I)I"⟩
abbrev cX8_note : ByteArray := prog_10_method_79_code
def yX8_note : MethodName := ⟨RX8, "note", "(II)I"⟩
abbrev cX8_out : ByteArray := prog_10_method_80_code
def yX8_out : MethodName := ⟨RX8, "out", "(I)I"⟩
abbrev cX8_fixedBy : ByteArray := prog_10_method_81_code
def yX8_fixedBy : MethodName := ⟨RX8, "fixedBy", "(I)I"⟩
abbrev cX8_steals : ByteArray := prog_10_method_82_code
def yX8_steals : MethodName := ⟨RX8, "steals", "()I"⟩
abbrev cX8_theftOf : ByteArray := prog_10_method_83_code
def yX8_theftOf : MethodName := ⟨RX8, "theftOf", "(I)I"⟩
abbrev cX8_theft : ByteArray := prog_10_method_84_code
def yX8_theft : MethodName := ⟨RX8, "theft", "(I)I"⟩
abbrev cX8_loot : ByteArray := prog_10_method_85_code
def yX8_loot : MethodName := ⟨RX8, "loot", "(I)I"⟩
abbrev cX8_guard : ByteArray := prog_10_method_86_code
def yX8_guard : MethodName := ⟨RX8, "guard", "(III)I"⟩
abbrev cX8_sheetWrong : ByteArray := prog_10_method_87_code
def yX8_sheetWrong : MethodName := ⟨RX8, "sheetWrong", "(I)I"⟩
abbrev cX8_judged : ByteArray := prog_10_method_88_code
def yX8_judged : MethodName := ⟨RX8, "judged", "(I)I"⟩
abbrev cX8_judge : ByteArray := prog_10_method_89_code
def yX8_judge : MethodName := ⟨RX8, "judge", "(I)I"⟩
abbrev cX8_whose : ByteArray := prog_10_method_90_code
def yX8_whose : MethodName := ⟨RX8, "whose", "(III)I"⟩
abbrev cX8_kinds : ByteArray := prog_10_method_91_code
def yX8_kinds : MethodName := ⟨RX8, "kinds", "(II)I"⟩
abbrev cX8_laws : ByteArray := prog_10_method_92_code
def yX8_laws : MethodName := ⟨RX8, "laws", "(I)I"⟩
abbrev cX8_film : ByteArray := prog_10_method_93_code
def yX8_film : MethodName := ⟨RX8, "film", "(I)I"⟩
abbrev cX8_seen : ByteArray := prog_10_method_94_code
def yX8_seen : MethodName := ⟨RX8, "seen", "(I)I"⟩
abbrev cX8_livesBy : ByteArray := prog_10_method_95_code
def yX8_livesBy : MethodName := ⟨RX8, "livesBy", "(I)V"⟩
abbrev cX8_drawn : ByteArray := prog_10_method_96_code
def yX8_drawn : MethodName := ⟨RX8, "drawn", "(II)I"⟩
abbrev cX8_lowest : ByteArray := prog_10_method_97_code
def yX8_lowest : MethodName := ⟨RX8, "lowest", "(JJI)J"⟩
abbrev cX8_odds : ByteArray := prog_10_method_98_code
def yX8_odds : MethodName := ⟨RX8, "odds", "(IIII)J"⟩
abbrev cX8_image : ByteArray := prog_10_method_99_code
def yX8_image : MethodName := ⟨RX8, "image", "()I"⟩
abbrev cX8_back : ByteArray := prog_10_method_100_code
def yX8_back : MethodName := ⟨RX8, "back", "()I"⟩
abbrev cX8_sheet : ByteArray := prog_10_method_101_code
def yX8_sheet : MethodName := ⟨RX8, "sheet", "(III)I"⟩
abbrev cX8_cell : ByteArray := prog_10_method_102_code
def yX8_cell : MethodName := ⟨RX8, "cell", "(III)I"⟩
abbrev cX8_copy : ByteArray := prog_10_method_103_code
def yX8_copy : MethodName := ⟨RX8, "copy", "(IIIII)I"⟩
abbrev cX8_locksBy : ByteArray := prog_10_method_104_code
def yX8_locksBy : MethodName := ⟨RX8, "locksBy", "(IIII)I"⟩
abbrev cX8_isUnder : ByteArray := prog_10_method_105_code
def yX8_isUnder : MethodName := ⟨RX8, "isUnder", "(II)Z"⟩
abbrev cX8_taken : ByteArray := prog_10_method_106_code
def yX8_taken : MethodName := ⟨RX8, "taken", "(II)I"⟩
def RJ11 : String := "java/lang/Character"
def RJ6 : String := "java/lang/Integer"
abbrev cJ6_bitCount_0f7a4 : ByteArray := prog_12_method_49_code
def yJ6_bitCount_0f7a4 : MethodName := ⟨RJ6, "bitCount", "(I)I"⟩
def RJ9 : String := "java/lang/Math"
def RJ0 : String := "java/lang/String"
abbrev cJ0_length_8abf5 : ByteArray := prog_14_method_54_code
def yJ0_length_8abf5 : MethodName := ⟨RJ0, "length", "()I"⟩
abbrev cJ0_charAt_5068e : ByteArray := prog_14_method_56_code
def yJ0_charAt_5068e : MethodName := ⟨RJ0, "charAt", "(I)C"⟩
abbrev cJ0_indexOf_0f7a4 : ByteArray := prog_14_method_79_code
def yJ0_indexOf_0f7a4 : MethodName := ⟨RJ0, "indexOf", "(I)I"⟩
abbrev cJ0_indexOf_7cf53 : ByteArray := prog_14_method_80_code
def yJ0_indexOf_7cf53 : MethodName := ⟨RJ0, "indexOf", "(II)I"⟩
abbrev cJ0_coder_7d493 : ByteArray := prog_14_method_152_code
def yJ0_coder_7d493 : MethodName := ⟨RJ0, "coder", "()B"⟩
abbrev cJ0_isLatin1_aae02 : ByteArray := prog_14_method_154_code
def yJ0_isLatin1_aae02 : MethodName := ⟨RJ0, "isLatin1", "()Z"⟩
def RJ1 : String := "java/lang/StringLatin1"
abbrev cJ1_charAt_3b067 : ByteArray := prog_15_method_2_code
def yJ1_charAt_3b067 : MethodName := ⟨RJ1, "charAt", "([BI)C"⟩
abbrev cJ1_canEncode_9a6ad : ByteArray := prog_15_method_4_code
def yJ1_canEncode_9a6ad : MethodName := ⟨RJ1, "canEncode", "(I)Z"⟩
abbrev cJ1_indexOf_4cfef : ByteArray := prog_15_method_22_code
def yJ1_indexOf_4cfef : MethodName := ⟨RJ1, "indexOf", "([BIII)I"⟩
abbrev cJ1_indexOfChar_4cfef : ByteArray := prog_15_method_23_code
def yJ1_indexOfChar_4cfef : MethodName := ⟨RJ1, "indexOfChar", "([BIII)I"⟩
def RJ2 : String := "java/lang/StringUTF16"
def RJ10 : String := "java/lang/System"
def RJ3 : String := "jdk/internal/util/Preconditions"
abbrev vwCl : List vw_C := [(RX0, TX0, 2), (RX2, TX2, 8), (RX3, TX3, 4), (RX4, TX4, 12), (RX5, TX5, 9), (RX6, TX6, 3), (RX7, TX7, 10), (RX8, TX8, 42)]
def RL : String := "LockedToAnothersLaw"
def yL_law : MethodName := ⟨RL, "law", "([I)Z"⟩
theorem am_mem {ws big : List Jvm.Cond} (ps : List Nat) (hp : ws = ps.filterMap (fun i => big[i]?)) : ∀ w ∈ ws, w ∈ big := by
  intro w hw
  rw [hp] at hw
  obtain ⟨i, -, hi⟩ := List.mem_filterMap.mp hw
  exact List.mem_of_getElem? hi
theorem inX0 : ∀ w ∈ wsX00, w ∈ lw_tbl := am_mem [430, 432] (by decide +kernel)
theorem inX2 : ∀ w ∈ wsX20, w ∈ lw_tbl := am_mem [384, 386, 388, 390, 392, 394, 396, 398] (by decide +kernel)
theorem inX3 : ∀ w ∈ wsX30, w ∈ lw_tbl := am_mem [412, 414, 416, 418] (by decide +kernel)
theorem inX4 : ∀ w ∈ wsX40, w ∈ lw_tbl := am_mem [140, 142, 144, 146, 148, 150, 152, 154, 156, 158, 160, 162] (by decide +kernel)
theorem inX5 : ∀ w ∈ wsX50, w ∈ lw_tbl := am_mem [189, 191, 193, 195, 197, 199, 201, 203, 205] (by decide +kernel)
theorem inX6 : ∀ w ∈ wsX60, w ∈ lw_tbl := am_mem [448, 450, 452] (by decide +kernel)
theorem inX7 : ∀ w ∈ wsX70, w ∈ lw_tbl := am_mem [465, 467, 469, 471, 473, 475, 477, 479, 481, 483] (by decide +kernel)
theorem inX8 : ∀ w ∈ wsX80, w ∈ lw_tbl := am_mem [1072, 1074, 1076, 1078, 1080, 1082, 1084, 1086, 1088, 1090, 1092, 1094, 1096, 1098, 1100, 1102, 1104, 1106, 1108, 1110, 1112, 1114, 1116, 1118, 1120, 1122, 1124, 1126, 1128, 1130, 1132, 1134, 1136, 1138, 1140, 1142, 1144, 1146, 1148, 1150, 1152, 1154] (by decide +kernel)
