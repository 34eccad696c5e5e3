section
-- ===== PART A: goes FIRST, ahead of the names: the tables' words, and 'selects' of the private methods out of them =====
/-- a private method of a class that the tables say can be made, by its rows of tables_1 -/
def lw_okq (q : MethodName × Nat) : Prop := (q.1.cls ≠ "java/lang/invoke/MethodHandle" ∧ q.1.cls ≠ "java/lang/invoke/VarHandle") ∧ Cond.instantiable q.1.cls q.2 ∈ tables_1 ∧ Cond.privateMethod q.1 ∈ tables_1 ∧ Cond.instanceMethod q.1 ∈ tables_1
theorem lw_p0 : lw_okq (⟨"PocketCards$Pocket", "moveCard", "(II)V"⟩, 7) := ⟨⟨by decide +kernel, by decide +kernel⟩, List.mem_of_getElem? (i := 26) (by decide +kernel), List.mem_of_getElem? (i := 247) (by decide +kernel), List.mem_of_getElem? (i := 248) (by decide +kernel)⟩
theorem lw_p1 : lw_okq (⟨"PocketCards", "recorded", "(I)I"⟩, 7) := ⟨⟨by decide +kernel, by decide +kernel⟩, List.mem_of_getElem? (i := 12) (by decide +kernel), List.mem_of_getElem? (i := 251) (by decide +kernel), List.mem_of_getElem? (i := 252) (by decide +kernel)⟩
theorem lw_p2 : lw_okq (⟨"PocketCards$History", "dropOldest", "()V"⟩, 2) := ⟨⟨by decide +kernel, by decide +kernel⟩, List.mem_of_getElem? (i := 140) (by decide +kernel), List.mem_of_getElem? (i := 259) (by decide +kernel), List.mem_of_getElem? (i := 260) (by decide +kernel)⟩
theorem lw_p3 : lw_okq (⟨"PocketCards$Pocket", "isCard", "(I)Z"⟩, 7) := ⟨⟨by decide +kernel, by decide +kernel⟩, List.mem_of_getElem? (i := 26) (by decide +kernel), List.mem_of_getElem? (i := 276) (by decide +kernel), List.mem_of_getElem? (i := 277) (by decide +kernel)⟩
theorem lw_p4 : lw_okq (⟨"PocketCards$State", "hear", "()I"⟩, 7) := ⟨⟨by decide +kernel, by decide +kernel⟩, List.mem_of_getElem? (i := 20) (by decide +kernel), List.mem_of_getElem? (i := 382) (by decide +kernel), List.mem_of_getElem? (i := 383) (by decide +kernel)⟩
theorem lw_p5 : lw_okq (⟨"PocketCards$State", "drawSlots", "(I)V"⟩, 7) := ⟨⟨by decide +kernel, by decide +kernel⟩, List.mem_of_getElem? (i := 20) (by decide +kernel), List.mem_of_getElem? (i := 441) (by decide +kernel), List.mem_of_getElem? (i := 442) (by decide +kernel)⟩
theorem lw_p6 : lw_okq (⟨"PocketCards$State", "draw", "(I)I"⟩, 7) := ⟨⟨by decide +kernel, by decide +kernel⟩, List.mem_of_getElem? (i := 20) (by decide +kernel), List.mem_of_getElem? (i := 445) (by decide +kernel), List.mem_of_getElem? (i := 446) (by decide +kernel)⟩
theorem lw_p7 : lw_okq (⟨"PocketCards$State", "nextSize", "(III)I"⟩, 7) := ⟨⟨by decide +kernel, by decide +kernel⟩, List.mem_of_getElem? (i := 20) (by decide +kernel), List.mem_of_getElem? (i := 469) (by decide +kernel), List.mem_of_getElem? (i := 470) (by decide +kernel)⟩
theorem lw_p8 : lw_okq (⟨"PocketCards$Text", "readOrder", "()Z"⟩, 7) := ⟨⟨by decide +kernel, by decide +kernel⟩, List.mem_of_getElem? (i := 156) (by decide +kernel), List.mem_of_getElem? (i := 500) (by decide +kernel), List.mem_of_getElem? (i := 501) (by decide +kernel)⟩
theorem lw_p9 : lw_okq (⟨"PocketCards$Text", "characterAt", "(I)C"⟩, 7) := ⟨⟨by decide +kernel, by decide +kernel⟩, List.mem_of_getElem? (i := 156) (by decide +kernel), List.mem_of_getElem? (i := 504) (by decide +kernel), List.mem_of_getElem? (i := 505) (by decide +kernel)⟩
theorem lw_p10 : lw_okq (⟨"PocketCards$Text", "readNumber", "(II)Z"⟩, 7) := ⟨⟨by decide +kernel, by decide +kernel⟩, List.mem_of_getElem? (i := 156) (by decide +kernel), List.mem_of_getElem? (i := 508) (by decide +kernel), List.mem_of_getElem? (i := 509) (by decide +kernel)⟩
theorem lw_p11 : lw_okq (⟨"PocketCards$Text", "digitAt", "(I)I"⟩, 7) := ⟨⟨by decide +kernel, by decide +kernel⟩, List.mem_of_getElem? (i := 156) (by decide +kernel), List.mem_of_getElem? (i := 512) (by decide +kernel), List.mem_of_getElem? (i := 513) (by decide +kernel)⟩
theorem lw_p12 : lw_okq (⟨"PocketCardsModel", "record", "()V"⟩, 20) := ⟨⟨by decide +kernel, by decide +kernel⟩, List.mem_of_getElem? (i := 632) (by decide +kernel), List.mem_of_getElem? (i := 714) (by decide +kernel), List.mem_of_getElem? (i := 715) (by decide +kernel)⟩
theorem lw_p13 : lw_okq (⟨"PocketCardsModel", "recordRow", "([I)V"⟩, 20) := ⟨⟨by decide +kernel, by decide +kernel⟩, List.mem_of_getElem? (i := 632) (by decide +kernel), List.mem_of_getElem? (i := 718) (by decide +kernel), List.mem_of_getElem? (i := 719) (by decide +kernel)⟩
theorem lw_p14 : lw_okq (⟨"PocketCardsModel", "whyNotPut", "(I)I"⟩, 20) := ⟨⟨by decide +kernel, by decide +kernel⟩, List.mem_of_getElem? (i := 632) (by decide +kernel), List.mem_of_getElem? (i := 726) (by decide +kernel), List.mem_of_getElem? (i := 727) (by decide +kernel)⟩
theorem lw_p15 : lw_okq (⟨"PocketCardsModel", "cardWith", "(I)I"⟩, 20) := ⟨⟨by decide +kernel, by decide +kernel⟩, List.mem_of_getElem? (i := 632) (by decide +kernel), List.mem_of_getElem? (i := 733) (by decide +kernel), List.mem_of_getElem? (i := 734) (by decide +kernel)⟩
def lw_privs_1 : List (MethodName × Nat) := [(⟨"PocketCards$Pocket", "moveCard", "(II)V"⟩, 7), (⟨"PocketCards", "recorded", "(I)I"⟩, 7), (⟨"PocketCards$History", "dropOldest", "()V"⟩, 2), (⟨"PocketCards$Pocket", "isCard", "(I)Z"⟩, 7), (⟨"PocketCards$State", "hear", "()I"⟩, 7), (⟨"PocketCards$State", "drawSlots", "(I)V"⟩, 7), (⟨"PocketCards$State", "draw", "(I)I"⟩, 7), (⟨"PocketCards$State", "nextSize", "(III)I"⟩, 7), (⟨"PocketCards$Text", "readOrder", "()Z"⟩, 7), (⟨"PocketCards$Text", "characterAt", "(I)C"⟩, 7), (⟨"PocketCards$Text", "readNumber", "(II)Z"⟩, 7), (⟨"PocketCards$Text", "digitAt", "(I)I"⟩, 7), (⟨"PocketCardsModel", "record", "()V"⟩, 20), (⟨"PocketCardsModel", "recordRow", "([I)V"⟩, 20), (⟨"PocketCardsModel", "whyNotPut", "(I)I"⟩, 20), (⟨"PocketCardsModel", "cardWith", "(I)I"⟩, 20)]
theorem lw_r1 : ∀ q ∈ lw_privs_1, lw_okq q := List.forall_mem_cons.mpr ⟨lw_p0, List.forall_mem_cons.mpr ⟨lw_p1, List.forall_mem_cons.mpr ⟨lw_p2, List.forall_mem_cons.mpr ⟨lw_p3, List.forall_mem_cons.mpr ⟨lw_p4, List.forall_mem_cons.mpr ⟨lw_p5, List.forall_mem_cons.mpr ⟨lw_p6, List.forall_mem_cons.mpr ⟨lw_p7, List.forall_mem_cons.mpr ⟨lw_p8, List.forall_mem_cons.mpr ⟨lw_p9, List.forall_mem_cons.mpr ⟨lw_p10, List.forall_mem_cons.mpr ⟨lw_p11, List.forall_mem_cons.mpr ⟨lw_p12, List.forall_mem_cons.mpr ⟨lw_p13, List.forall_mem_cons.mpr ⟨lw_p14, List.forall_mem_cons.mpr ⟨lw_p15, fun _ h => absurd h List.not_mem_nil⟩⟩⟩⟩⟩⟩⟩⟩⟩⟩⟩⟩⟩⟩⟩⟩
theorem lw_p16 : lw_okq (⟨"PocketCardsModel", "of", "(II)I"⟩, 20) := ⟨⟨by decide +kernel, by decide +kernel⟩, List.mem_of_getElem? (i := 632) (by decide +kernel), List.mem_of_getElem? (i := 737) (by decide +kernel), List.mem_of_getElem? (i := 738) (by decide +kernel)⟩
theorem lw_p17 : lw_okq (⟨"PocketCardsModel", "putNow", "(I)V"⟩, 20) := ⟨⟨by decide +kernel, by decide +kernel⟩, List.mem_of_getElem? (i := 632) (by decide +kernel), List.mem_of_getElem? (i := 741) (by decide +kernel), List.mem_of_getElem? (i := 742) (by decide +kernel)⟩
theorem lw_p18 : lw_okq (⟨"PocketCardsModel", "lay", "(III)V"⟩, 20) := ⟨⟨by decide +kernel, by decide +kernel⟩, List.mem_of_getElem? (i := 632) (by decide +kernel), List.mem_of_getElem? (i := 745) (by decide +kernel), List.mem_of_getElem? (i := 746) (by decide +kernel)⟩
theorem lw_p19 : lw_okq (⟨"PocketCardsModel", "takeNow", "(I)V"⟩, 20) := ⟨⟨by decide +kernel, by decide +kernel⟩, List.mem_of_getElem? (i := 632) (by decide +kernel), List.mem_of_getElem? (i := 753) (by decide +kernel), List.mem_of_getElem? (i := 754) (by decide +kernel)⟩
theorem lw_p20 : lw_okq (⟨"PocketCardsModel", "awake", "()I"⟩, 20) := ⟨⟨by decide +kernel, by decide +kernel⟩, List.mem_of_getElem? (i := 632) (by decide +kernel), List.mem_of_getElem? (i := 761) (by decide +kernel), List.mem_of_getElem? (i := 762) (by decide +kernel)⟩
theorem lw_p21 : lw_okq (⟨"PocketCardsModel", "wakeNow", "()V"⟩, 20) := ⟨⟨by decide +kernel, by decide +kernel⟩, List.mem_of_getElem? (i := 632) (by decide +kernel), List.mem_of_getElem? (i := 769) (by decide +kernel), List.mem_of_getElem? (i := 770) (by decide +kernel)⟩
theorem lw_p22 : lw_okq (⟨"PocketCardsModel", "askNow", "(II)I"⟩, 20) := ⟨⟨by decide +kernel, by decide +kernel⟩, List.mem_of_getElem? (i := 632) (by decide +kernel), List.mem_of_getElem? (i := 796) (by decide +kernel), List.mem_of_getElem? (i := 797) (by decide +kernel)⟩
theorem lw_p23 : lw_okq (⟨"PocketCardsModel", "noAnswer", "()V"⟩, 20) := ⟨⟨by decide +kernel, by decide +kernel⟩, List.mem_of_getElem? (i := 632) (by decide +kernel), List.mem_of_getElem? (i := 800) (by decide +kernel), List.mem_of_getElem? (i := 801) (by decide +kernel)⟩
theorem lw_p24 : lw_okq (⟨"PocketCardsModel", "answers", "(I)V"⟩, 20) := ⟨⟨by decide +kernel, by decide +kernel⟩, List.mem_of_getElem? (i := 632) (by decide +kernel), List.mem_of_getElem? (i := 807) (by decide +kernel), List.mem_of_getElem? (i := 808) (by decide +kernel)⟩
theorem lw_p25 : lw_okq (⟨"PocketCardsModel", "answer", "()I"⟩, 20) := ⟨⟨by decide +kernel, by decide +kernel⟩, List.mem_of_getElem? (i := 632) (by decide +kernel), List.mem_of_getElem? (i := 811) (by decide +kernel), List.mem_of_getElem? (i := 812) (by decide +kernel)⟩
theorem lw_p26 : lw_okq (⟨"PocketCardsModel", "clashBit", "()I"⟩, 20) := ⟨⟨by decide +kernel, by decide +kernel⟩, List.mem_of_getElem? (i := 632) (by decide +kernel), List.mem_of_getElem? (i := 815) (by decide +kernel), List.mem_of_getElem? (i := 816) (by decide +kernel)⟩
theorem lw_p27 : lw_okq (⟨"PocketCardsModel", "tell", "(I)V"⟩, 20) := ⟨⟨by decide +kernel, by decide +kernel⟩, List.mem_of_getElem? (i := 632) (by decide +kernel), List.mem_of_getElem? (i := 819) (by decide +kernel), List.mem_of_getElem? (i := 820) (by decide +kernel)⟩
theorem lw_p28 : lw_okq (⟨"PocketCardsModel", "letGo", "()V"⟩, 20) := ⟨⟨by decide +kernel, by decide +kernel⟩, List.mem_of_getElem? (i := 632) (by decide +kernel), List.mem_of_getElem? (i := 823) (by decide +kernel), List.mem_of_getElem? (i := 824) (by decide +kernel)⟩
theorem lw_p29 : lw_okq (⟨"PocketCardsModel", "walkNow", "(Z)V"⟩, 20) := ⟨⟨by decide +kernel, by decide +kernel⟩, List.mem_of_getElem? (i := 632) (by decide +kernel), List.mem_of_getElem? (i := 831) (by decide +kernel), List.mem_of_getElem? (i := 832) (by decide +kernel)⟩
theorem lw_p30 : lw_okq (⟨"PocketCardsModel", "frameNow", "(I)V"⟩, 20) := ⟨⟨by decide +kernel, by decide +kernel⟩, List.mem_of_getElem? (i := 632) (by decide +kernel), List.mem_of_getElem? (i := 842) (by decide +kernel), List.mem_of_getElem? (i := 843) (by decide +kernel)⟩
theorem lw_p31 : lw_okq (⟨"PocketCardsModel", "draw", "(I)I"⟩, 20) := ⟨⟨by decide +kernel, by decide +kernel⟩, List.mem_of_getElem? (i := 632) (by decide +kernel), List.mem_of_getElem? (i := 846) (by decide +kernel), List.mem_of_getElem? (i := 847) (by decide +kernel)⟩
def lw_privs_2 : List (MethodName × Nat) := [(⟨"PocketCardsModel", "of", "(II)I"⟩, 20), (⟨"PocketCardsModel", "putNow", "(I)V"⟩, 20), (⟨"PocketCardsModel", "lay", "(III)V"⟩, 20), (⟨"PocketCardsModel", "takeNow", "(I)V"⟩, 20), (⟨"PocketCardsModel", "awake", "()I"⟩, 20), (⟨"PocketCardsModel", "wakeNow", "()V"⟩, 20), (⟨"PocketCardsModel", "askNow", "(II)I"⟩, 20), (⟨"PocketCardsModel", "noAnswer", "()V"⟩, 20), (⟨"PocketCardsModel", "answers", "(I)V"⟩, 20), (⟨"PocketCardsModel", "answer", "()I"⟩, 20), (⟨"PocketCardsModel", "clashBit", "()I"⟩, 20), (⟨"PocketCardsModel", "tell", "(I)V"⟩, 20), (⟨"PocketCardsModel", "letGo", "()V"⟩, 20), (⟨"PocketCardsModel", "walkNow", "(Z)V"⟩, 20), (⟨"PocketCardsModel", "frameNow", "(I)V"⟩, 20), (⟨"PocketCardsModel", "draw", "(I)I"⟩, 20)]
theorem lw_r2 : ∀ q ∈ lw_privs_2, lw_okq q := List.forall_mem_cons.mpr ⟨lw_p16, List.forall_mem_cons.mpr ⟨lw_p17, List.forall_mem_cons.mpr ⟨lw_p18, List.forall_mem_cons.mpr ⟨lw_p19, List.forall_mem_cons.mpr ⟨lw_p20, List.forall_mem_cons.mpr ⟨lw_p21, List.forall_mem_cons.mpr ⟨lw_p22, List.forall_mem_cons.mpr ⟨lw_p23, List.forall_mem_cons.mpr ⟨lw_p24, List.forall_mem_cons.mpr ⟨lw_p25, List.forall_mem_cons.mpr ⟨lw_p26, List.forall_mem_cons.mpr ⟨lw_p27, List.forall_mem_cons.mpr ⟨lw_p28, List.forall_mem_cons.mpr ⟨lw_p29, List.forall_mem_cons.mpr ⟨lw_p30, List.forall_mem_cons.mpr ⟨lw_p31, fun _ h => absurd h List.not_mem_nil⟩⟩⟩⟩⟩⟩⟩⟩⟩⟩⟩⟩⟩⟩⟩⟩
theorem lw_p32 : lw_okq (⟨"PocketCardsModel", "roundsNow", "(I)I"⟩, 20) := ⟨⟨by decide +kernel, by decide +kernel⟩, List.mem_of_getElem? (i := 632) (by decide +kernel), List.mem_of_getElem? (i := 858) (by decide +kernel), List.mem_of_getElem? (i := 859) (by decide +kernel)⟩
theorem lw_p33 : lw_okq (⟨"PocketCardsModel", "nextSize", "(III)I"⟩, 20) := ⟨⟨by decide +kernel, by decide +kernel⟩, List.mem_of_getElem? (i := 632) (by decide +kernel), List.mem_of_getElem? (i := 862) (by decide +kernel), List.mem_of_getElem? (i := 863) (by decide +kernel)⟩
theorem lw_p34 : lw_okq (⟨"PocketCardsModel", "readText", "()Z"⟩, 20) := ⟨⟨by decide +kernel, by decide +kernel⟩, List.mem_of_getElem? (i := 632) (by decide +kernel), List.mem_of_getElem? (i := 878) (by decide +kernel), List.mem_of_getElem? (i := 879) (by decide +kernel)⟩
theorem lw_p35 : lw_okq (⟨"PocketCardsModel", "readOrder", "()Z"⟩, 20) := ⟨⟨by decide +kernel, by decide +kernel⟩, List.mem_of_getElem? (i := 632) (by decide +kernel), List.mem_of_getElem? (i := 882) (by decide +kernel), List.mem_of_getElem? (i := 883) (by decide +kernel)⟩
theorem lw_p36 : lw_okq (⟨"PocketCardsModel", "number", "(II)I"⟩, 20) := ⟨⟨by decide +kernel, by decide +kernel⟩, List.mem_of_getElem? (i := 632) (by decide +kernel), List.mem_of_getElem? (i := 886) (by decide +kernel), List.mem_of_getElem? (i := 887) (by decide +kernel)⟩
theorem lw_p37 : lw_okq (⟨"PocketCardsModel", "sees", "(II)Z"⟩, 20) := ⟨⟨by decide +kernel, by decide +kernel⟩, List.mem_of_getElem? (i := 632) (by decide +kernel), List.mem_of_getElem? (i := 890) (by decide +kernel), List.mem_of_getElem? (i := 891) (by decide +kernel)⟩
theorem lw_p38 : lw_okq (⟨"PocketCardsModel", "takes", "(I)Z"⟩, 20) := ⟨⟨by decide +kernel, by decide +kernel⟩, List.mem_of_getElem? (i := 632) (by decide +kernel), List.mem_of_getElem? (i := 894) (by decide +kernel), List.mem_of_getElem? (i := 895) (by decide +kernel)⟩
theorem lw_p39 : lw_okq (⟨"PocketCardsModel", "whyNot", "(II)I"⟩, 20) := ⟨⟨by decide +kernel, by decide +kernel⟩, List.mem_of_getElem? (i := 632) (by decide +kernel), List.mem_of_getElem? (i := 898) (by decide +kernel), List.mem_of_getElem? (i := 899) (by decide +kernel)⟩
theorem lw_p40 : lw_okq (⟨"PocketCardsModel", "carryOut", "(II)V"⟩, 20) := ⟨⟨by decide +kernel, by decide +kernel⟩, List.mem_of_getElem? (i := 632) (by decide +kernel), List.mem_of_getElem? (i := 902) (by decide +kernel), List.mem_of_getElem? (i := 903) (by decide +kernel)⟩
theorem lw_p41 : lw_okq (⟨"PocketCardsModel", "shares", "(I)I"⟩, 20) := ⟨⟨by decide +kernel, by decide +kernel⟩, List.mem_of_getElem? (i := 632) (by decide +kernel), List.mem_of_getElem? (i := 914) (by decide +kernel), List.mem_of_getElem? (i := 915) (by decide +kernel)⟩
theorem lw_p42 : lw_okq (⟨"PocketCardsModel", "leaving", "()I"⟩, 20) := ⟨⟨by decide +kernel, by decide +kernel⟩, List.mem_of_getElem? (i := 632) (by decide +kernel), List.mem_of_getElem? (i := 926) (by decide +kernel), List.mem_of_getElem? (i := 927) (by decide +kernel)⟩
theorem lw_p43 : lw_okq (⟨"PocketCardsModel", "withBeginning", "(II)I"⟩, 20) := ⟨⟨by decide +kernel, by decide +kernel⟩, List.mem_of_getElem? (i := 632) (by decide +kernel), List.mem_of_getElem? (i := 934) (by decide +kernel), List.mem_of_getElem? (i := 935) (by decide +kernel)⟩
def lw_privs_3 : List (MethodName × Nat) := [(⟨"PocketCardsModel", "roundsNow", "(I)I"⟩, 20), (⟨"PocketCardsModel", "nextSize", "(III)I"⟩, 20), (⟨"PocketCardsModel", "readText", "()Z"⟩, 20), (⟨"PocketCardsModel", "readOrder", "()Z"⟩, 20), (⟨"PocketCardsModel", "number", "(II)I"⟩, 20), (⟨"PocketCardsModel", "sees", "(II)Z"⟩, 20), (⟨"PocketCardsModel", "takes", "(I)Z"⟩, 20), (⟨"PocketCardsModel", "whyNot", "(II)I"⟩, 20), (⟨"PocketCardsModel", "carryOut", "(II)V"⟩, 20), (⟨"PocketCardsModel", "shares", "(I)I"⟩, 20), (⟨"PocketCardsModel", "leaving", "()I"⟩, 20), (⟨"PocketCardsModel", "withBeginning", "(II)I"⟩, 20)]
theorem lw_r3 : ∀ q ∈ lw_privs_3, lw_okq q := List.forall_mem_cons.mpr ⟨lw_p32, List.forall_mem_cons.mpr ⟨lw_p33, List.forall_mem_cons.mpr ⟨lw_p34, List.forall_mem_cons.mpr ⟨lw_p35, List.forall_mem_cons.mpr ⟨lw_p36, List.forall_mem_cons.mpr ⟨lw_p37, List.forall_mem_cons.mpr ⟨lw_p38, List.forall_mem_cons.mpr ⟨lw_p39, List.forall_mem_cons.mpr ⟨lw_p40, List.forall_mem_cons.mpr ⟨lw_p41, List.forall_mem_cons.mpr ⟨lw_p42, List.forall_mem_cons.mpr ⟨lw_p43, fun _ h => absurd h List.not_mem_nil⟩⟩⟩⟩⟩⟩⟩⟩⟩⟩⟩⟩
def lw_privs : List (MethodName × Nat) := lw_privs_1 ++ (lw_privs_2 ++ (lw_privs_3))
def lw_tbl : List Cond := k2_sels lw_privs ++ tables_1
theorem lw_privs_ok : ∀ q ∈ lw_privs, lw_okq q := by
  show ∀ q ∈ lw_privs_1 ++ (lw_privs_2 ++ (lw_privs_3)), lw_okq q
  exact List.forall_mem_append.mpr ⟨lw_r1, List.forall_mem_append.mpr ⟨lw_r2, lw_r3⟩⟩
end
section
def RX0 : String := "PocketCards$History"
def TX0 : u_T := fun k => match k with
  | 0 => ("PocketCards$History", "rows", "[LPocketCards$State;", true)
  | _ => ("PocketCards$History", "states", "I", false)
def tyX0 : Nat → FieldType := fun k => match k with
  | 0 => .array (.object "PocketCards$State")
  | _ => .int
abbrev wsX00 : List Cond := u_ws RX0 TX0 2
theorem nmX0 : ∀ a, a < 2 → ∀ b, b < 2 → a ≠ b → (TX0 a).2.1 ≠ (TX0 b).2.1 := by decide +kernel
theorem tyX0_ok : ∀ k, k < 2 → parseFieldDescriptor (TX0 k).2.2.1 = some (tyX0 k) := by decide +kernel
abbrev cX0_init : ByteArray := prog_2_method_1_code
def yX0_init : MethodName := ⟨RX0, "<init>", "()V"⟩
abbrev cX0_states : ByteArray := prog_2_method_2_code
def yX0_states : MethodName := ⟨RX0, "states", "()I"⟩
abbrev cX0_add : ByteArray := prog_2_method_3_code
def yX0_add : MethodName := ⟨RX0, "add", "(LPocketCards$State;)V"⟩
abbrev cX0_dropOldest : ByteArray := prog_2_method_4_code
def yX0_dropOldest : MethodName := ⟨RX0, "dropOldest", "()V"⟩
abbrev cX0_backTo : ByteArray := prog_2_method_5_code
def yX0_backTo : MethodName := ⟨RX0, "backTo", "(LPocketCards$State;)I"⟩
def RX1 : String := "PocketCards$Pocket"
def TX1 : u_T := fun k => match k with
  | 0 => ("PocketCards$Pocket", "names", "[I", true)
  | 1 => ("PocketCards$Pocket", "asksToGo", "[I", true)
  | 2 => ("PocketCards$Pocket", "tellings", "[I", true)
  | 3 => ("PocketCards$Pocket", "slots", "[I", true)
  | 4 => ("PocketCards$Pocket", "awake", "[Z", true)
  | 5 => ("PocketCards$Pocket", "answering", "[Z", true)
  | _ => ("PocketCards$Pocket", "cards", "I", false)
def tyX1 : Nat → FieldType := fun k => match k with
  | 0 => .array .int
  | 1 => .array .int
  | 2 => .array .int
  | 3 => .array .int
  | 4 => .array .boolean
  | 5 => .array .boolean
  | _ => .int
abbrev wsX10 : List Cond := u_ws RX1 TX1 7
theorem nmX1 : ∀ a, a < 7 → ∀ b, b < 7 → a ≠ b → (TX1 a).2.1 ≠ (TX1 b).2.1 := by decide +kernel
theorem tyX1_ok : ∀ k, k < 7 → parseFieldDescriptor (TX1 k).2.2.1 = some (tyX1 k) := by decide +kernel
abbrev cX1_init : ByteArray := prog_3_method_1_code
def yX1_init : MethodName := ⟨RX1, "<init>", "()V"⟩
abbrev cX1_copyFrom : ByteArray := prog_3_method_2_code
def yX1_copyFrom : MethodName := ⟨RX1, "copyFrom", "(LPocketCards$Pocket;)V"⟩
abbrev cX1_cards : ByteArray := prog_3_method_3_code
def yX1_cards : MethodName := ⟨RX1, "cards", "()I"⟩
abbrev cX1_isCard : ByteArray := prog_3_method_4_code
def yX1_isCard : MethodName := ⟨RX1, "isCard", "(I)Z"⟩
abbrev cX1_placeOf : ByteArray := prog_3_method_5_code
def yX1_placeOf : MethodName := ⟨RX1, "placeOf", "(I)I"⟩
abbrev cX1_nameAt : ByteArray := prog_3_method_6_code
def yX1_nameAt : MethodName := ⟨RX1, "nameAt", "(I)I"⟩
abbrev cX1_isAwake : ByteArray := prog_3_method_7_code
def yX1_isAwake : MethodName := ⟨RX1, "isAwake", "(I)Z"⟩
abbrev cX1_asksToGo : ByteArray := prog_3_method_8_code
def yX1_asksToGo : MethodName := ⟨RX1, "asksToGo", "(I)I"⟩
abbrev cX1_tellings : ByteArray := prog_3_method_9_code
def yX1_tellings : MethodName := ⟨RX1, "tellings", "(I)I"⟩
abbrev cX1_sharedBits : ByteArray := prog_3_method_10_code
def yX1_sharedBits : MethodName := ⟨RX1, "sharedBits", "(I)I"⟩
abbrev cX1_awakeCards : ByteArray := prog_3_method_11_code
def yX1_awakeCards : MethodName := ⟨RX1, "awakeCards", "()I"⟩
abbrev cX1_awakeWith : ByteArray := prog_3_method_12_code
def yX1_awakeWith : MethodName := ⟨RX1, "awakeWith", "(II)I"⟩
abbrev cX1_leavingCards : ByteArray := prog_3_method_13_code
def yX1_leavingCards : MethodName := ⟨RX1, "leavingCards", "()I"⟩
abbrev cX1_insert : ByteArray := prog_3_method_14_code
def yX1_insert : MethodName := ⟨RX1, "insert", "(I)V"⟩
abbrev cX1_removeAt : ByteArray := prog_3_method_15_code
def yX1_removeAt : MethodName := ⟨RX1, "removeAt", "(I)V"⟩
abbrev cX1_moveCard : ByteArray := prog_3_method_16_code
def yX1_moveCard : MethodName := ⟨RX1, "moveCard", "(II)V"⟩
abbrev cX1_sleepAt : ByteArray := prog_3_method_17_code
def yX1_sleepAt : MethodName := ⟨RX1, "sleepAt", "(I)V"⟩
abbrev cX1_wakeEach : ByteArray := prog_3_method_18_code
def yX1_wakeEach : MethodName := ⟨RX1, "wakeEach", "()V"⟩
abbrev cX1_leaveAt : ByteArray := prog_3_method_19_code
def yX1_leaveAt : MethodName := ⟨RX1, "leaveAt", "(II)V"⟩
abbrev cX1_tellAt : ByteArray := prog_3_method_20_code
def yX1_tellAt : MethodName := ⟨RX1, "tellAt", "(I)V"⟩
abbrev cX1_slotAt : ByteArray := prog_3_method_21_code
def yX1_slotAt : MethodName := ⟨RX1, "slotAt", "(II)V"⟩
abbrev cX1_letAnswer : ByteArray := prog_3_method_22_code
def yX1_letAnswer : MethodName := ⟨RX1, "letAnswer", "(II)V"⟩
abbrev cX1_letAnswerIn : ByteArray := prog_3_method_23_code
def yX1_letAnswerIn : MethodName := ⟨RX1, "letAnswerIn", "(I)V"⟩
abbrev cX1_firstAnswering : ByteArray := prog_3_method_24_code
def yX1_firstAnswering : MethodName := ⟨RX1, "firstAnswering", "()I"⟩
abbrev cX1_differencesFrom : ByteArray := prog_3_method_25_code
def yX1_differencesFrom : MethodName := ⟨RX1, "differencesFrom", "(I)I"⟩
abbrev cX1_passAsk : ByteArray := prog_3_method_26_code
def yX1_passAsk : MethodName := ⟨RX1, "passAsk", "()I"⟩
def RX2 : String := "PocketCards$State"
def TX2 : u_T := fun k => match k with
  | 0 => ("PocketCards$State", "pocket", "LPocketCards$Pocket;", true)
  | 1 => ("PocketCards$State", "told", "LPocketCards$Told;", true)
  | 2 => ("PocketCards$State", "tally", "LPocketCards$Tally;", true)
  | 3 => ("PocketCards$State", "settings", "[I", true)
  | 4 => ("PocketCards$State", "x", "I", false)
  | 5 => ("PocketCards$State", "longest", "I", false)
  | _ => ("PocketCards$State", "clashName", "I", false)
def tyX2 : Nat → FieldType := fun k => match k with
  | 0 => .object "PocketCards$Pocket"
  | 1 => .object "PocketCards$Told"
  | 2 => .object "PocketCards$Tally"
  | 3 => .array .int
  | 4 => .int
  | 5 => .int
  | _ => .int
abbrev wsX20 : List Cond := u_ws RX2 TX2 7
theorem nmX2 : ∀ a, a < 7 → ∀ b, b < 7 → a ≠ b → (TX2 a).2.1 ≠ (TX2 b).2.1 := by decide +kernel
theorem tyX2_ok : ∀ k, k < 7 → parseFieldDescriptor (TX2 k).2.2.1 = some (tyX2 k) := by decide +kernel
abbrev cX2_init : ByteArray := prog_4_method_1_code
def yX2_init : MethodName := ⟨RX2, "<init>", "()V"⟩
abbrev cX2_copyFrom : ByteArray := prog_4_method_2_code
def yX2_copyFrom : MethodName := ⟨RX2, "copyFrom", "(LPocketCards$State;)V"⟩
abbrev cX2_putCard : ByteArray := prog_4_method_3_code
def yX2_putCard : MethodName := ⟨RX2, "putCard", "(I)I"⟩
abbrev cX2_takeCard : ByteArray := prog_4_method_4_code
def yX2_takeCard : MethodName := ⟨RX2, "takeCard", "(I)I"⟩
abbrev cX2_sleepCard : ByteArray := prog_4_method_5_code
def yX2_sleepCard : MethodName := ⟨RX2, "sleepCard", "(I)I"⟩
abbrev cX2_wakeCards : ByteArray := prog_4_method_6_code
def yX2_wakeCards : MethodName := ⟨RX2, "wakeCards", "()I"⟩
abbrev cX2_leaveBehind : ByteArray := prog_4_method_7_code
def yX2_leaveBehind : MethodName := ⟨RX2, "leaveBehind", "(II)I"⟩
abbrev cX2_setTo : ByteArray := prog_4_method_8_code
def yX2_setTo : MethodName := ⟨RX2, "setTo", "(II)I"⟩
abbrev cX2_valueOf : ByteArray := prog_4_method_9_code
def yX2_valueOf : MethodName := ⟨RX2, "valueOf", "(I)I"⟩
abbrev cX2_shuffleTo : ByteArray := prog_4_method_10_code
def yX2_shuffleTo : MethodName := ⟨RX2, "shuffleTo", "(I)I"⟩
abbrev cX2_forgetTold : ByteArray := prog_4_method_11_code
def yX2_forgetTold : MethodName := ⟨RX2, "forgetTold", "()I"⟩
abbrev cX2_askFor : ByteArray := prog_4_method_12_code
def yX2_askFor : MethodName := ⟨RX2, "askFor", "(II)I"⟩
abbrev cX2_hear : ByteArray := prog_4_method_13_code
def yX2_hear : MethodName := ⟨RX2, "hear", "()I"⟩
abbrev cX2_makeWalk : ByteArray := prog_4_method_14_code
def yX2_makeWalk : MethodName := ⟨RX2, "makeWalk", "(Z)I"⟩
abbrev cX2_walkFrom : ByteArray := prog_4_method_15_code
def yX2_walkFrom : MethodName := ⟨RX2, "walkFrom", "(LPocketCards$State;IIZ)V"⟩
abbrev cX2_makeFrame : ByteArray := prog_4_method_16_code
def yX2_makeFrame : MethodName := ⟨RX2, "makeFrame", "(I)I"⟩
abbrev cX2_drawSlots : ByteArray := prog_4_method_17_code
def yX2_drawSlots : MethodName := ⟨RX2, "drawSlots", "(I)V"⟩
abbrev cX2_draw : ByteArray := prog_4_method_18_code
def yX2_draw : MethodName := ⟨RX2, "draw", "(I)I"⟩
abbrev cX2_makeRounds : ByteArray := prog_4_method_19_code
def yX2_makeRounds : MethodName := ⟨RX2, "makeRounds", "(I)I"⟩
abbrev cX2_nextSize : ByteArray := prog_4_method_20_code
def yX2_nextSize : MethodName := ⟨RX2, "nextSize", "(III)I"⟩
abbrev cX2_carryOut : ByteArray := prog_4_method_21_code
def yX2_carryOut : MethodName := ⟨RX2, "carryOut", "(CI)I"⟩
def RX3 : String := "PocketCards$Tally"
def TX3 : u_T := fun k => match k with
  | 0 => ("PocketCards$Tally", "asks", "I", false)
  | 1 => ("PocketCards$Tally", "slots", "I", false)
  | 2 => ("PocketCards$Tally", "silences", "I", false)
  | 3 => ("PocketCards$Tally", "names", "I", false)
  | 4 => ("PocketCards$Tally", "clashes", "I", false)
  | 5 => ("PocketCards$Tally", "time", "I", false)
  | 6 => ("PocketCards$Tally", "frames", "I", false)
  | _ => ("PocketCards$Tally", "left", "I", false)
def tyX3 : Nat → FieldType := fun k => match k with
  | 0 => .int
  | 1 => .int
  | 2 => .int
  | 3 => .int
  | 4 => .int
  | 5 => .int
  | 6 => .int
  | _ => .int
abbrev wsX30 : List Cond := u_ws RX3 TX3 8
theorem nmX3 : ∀ a, a < 8 → ∀ b, b < 8 → a ≠ b → (TX3 a).2.1 ≠ (TX3 b).2.1 := by decide +kernel
theorem tyX3_ok : ∀ k, k < 8 → parseFieldDescriptor (TX3 k).2.2.1 = some (tyX3 k) := by decide +kernel
abbrev cX3_init : ByteArray := prog_5_method_1_code
def yX3_init : MethodName := ⟨RX3, "<init>", "()V"⟩
abbrev cX3_copyFrom : ByteArray := prog_5_method_2_code
def yX3_copyFrom : MethodName := ⟨RX3, "copyFrom", "(LPocketCards$Tally;)V"⟩
abbrev cX3_numberOf : ByteArray := prog_5_method_3_code
def yX3_numberOf : MethodName := ⟨RX3, "numberOf", "(I)I"⟩
def RX4 : String := "PocketCards$Text"
def TX4 : u_T := fun k => match k with
  | 0 => ("PocketCards$Text", "characters", "[C", true)
  | 1 => ("PocketCards$Text", "length", "I", false)
  | 2 => ("PocketCards$Text", "kinds", "[C", true)
  | 3 => ("PocketCards$Text", "numbers", "[I", true)
  | 4 => ("PocketCards$Text", "orders", "I", false)
  | 5 => ("PocketCards$Text", "place", "I", false)
  | _ => ("PocketCards$Text", "number", "I", false)
def tyX4 : Nat → FieldType := fun k => match k with
  | 0 => .array .char
  | 1 => .int
  | 2 => .array .char
  | 3 => .array .int
  | 4 => .int
  | 5 => .int
  | _ => .int
abbrev wsX40 : List Cond := u_ws RX4 TX4 7
theorem nmX4 : ∀ a, a < 7 → ∀ b, b < 7 → a ≠ b → (TX4 a).2.1 ≠ (TX4 b).2.1 := by decide +kernel
theorem tyX4_ok : ∀ k, k < 7 → parseFieldDescriptor (TX4 k).2.2.1 = some (tyX4 k) := by decide +kernel
abbrev cX4_init : ByteArray := prog_6_method_1_code
def yX4_init : MethodName := ⟨RX4, "<init>", "()V"⟩
abbrev cX4_length : ByteArray := prog_6_method_2_code
def yX4_length : MethodName := ⟨RX4, "length", "()I"⟩
abbrev cX4_append : ByteArray := prog_6_method_3_code
def yX4_append : MethodName := ⟨RX4, "append", "(C)I"⟩
abbrev cX4_empty : ByteArray := prog_6_method_4_code
def yX4_empty : MethodName := ⟨RX4, "empty", "()I"⟩
abbrev cX4_orders : ByteArray := prog_6_method_5_code
def yX4_orders : MethodName := ⟨RX4, "orders", "()I"⟩
abbrev cX4_kindAt : ByteArray := prog_6_method_6_code
def yX4_kindAt : MethodName := ⟨RX4, "kindAt", "(I)C"⟩
abbrev cX4_numberAt : ByteArray := prog_6_method_7_code
def yX4_numberAt : MethodName := ⟨RX4, "numberAt", "(I)I"⟩
abbrev cX4_readOrders : ByteArray := prog_6_method_8_code
def yX4_readOrders : MethodName := ⟨RX4, "readOrders", "()I"⟩
abbrev cX4_readOrder : ByteArray := prog_6_method_9_code
def yX4_readOrder : MethodName := ⟨RX4, "readOrder", "()Z"⟩
abbrev cX4_readNumber : ByteArray := prog_6_method_10_code
def yX4_readNumber : MethodName := ⟨RX4, "readNumber", "(II)Z"⟩
abbrev cX4_digitAt : ByteArray := prog_6_method_11_code
def yX4_digitAt : MethodName := ⟨RX4, "digitAt", "(I)I"⟩
abbrev cX4_characterAt : ByteArray := prog_6_method_12_code
def yX4_characterAt : MethodName := ⟨RX4, "characterAt", "(I)C"⟩
def RX5 : String := "PocketCards$Told"
def TX5 : u_T := fun k => match k with
  | 0 => ("PocketCards$Told", "row", "[I", true)
  | _ => ("PocketCards$Told", "names", "I", false)
def tyX5 : Nat → FieldType := fun k => match k with
  | 0 => .array .int
  | _ => .int
abbrev wsX50 : List Cond := u_ws RX5 TX5 2
theorem nmX5 : ∀ a, a < 2 → ∀ b, b < 2 → a ≠ b → (TX5 a).2.1 ≠ (TX5 b).2.1 := by decide +kernel
theorem tyX5_ok : ∀ k, k < 2 → parseFieldDescriptor (TX5 k).2.2.1 = some (tyX5 k) := by decide +kernel
abbrev cX5_init : ByteArray := prog_7_method_1_code
def yX5_init : MethodName := ⟨RX5, "<init>", "()V"⟩
abbrev cX5_copyFrom : ByteArray := prog_7_method_2_code
def yX5_copyFrom : MethodName := ⟨RX5, "copyFrom", "(LPocketCards$Told;)V"⟩
abbrev cX5_names : ByteArray := prog_7_method_3_code
def yX5_names : MethodName := ⟨RX5, "names", "()I"⟩
abbrev cX5_nameAt : ByteArray := prog_7_method_4_code
def yX5_nameAt : MethodName := ⟨RX5, "nameAt", "(I)I"⟩
abbrev cX5_add : ByteArray := prog_7_method_5_code
def yX5_add : MethodName := ⟨RX5, "add", "(I)V"⟩
abbrev cX5_empty : ByteArray := prog_7_method_6_code
def yX5_empty : MethodName := ⟨RX5, "empty", "()V"⟩
def RX6 : String := "PocketCards"
def TX6 : u_T := fun k => match k with
  | 0 => ("PocketCards", "state", "LPocketCards$State;", true)
  | 1 => ("PocketCards", "before", "LPocketCards$State;", true)
  | 2 => ("PocketCards", "trial", "LPocketCards$State;", true)
  | 3 => ("PocketCards", "snapshot", "LPocketCards$State;", true)
  | 4 => ("PocketCards", "hasSnapshot", "Z", false)
  | 5 => ("PocketCards", "history", "LPocketCards$History;", true)
  | _ => ("PocketCards", "text", "LPocketCards$Text;", true)
def tyX6 : Nat → FieldType := fun k => match k with
  | 0 => .object "PocketCards$State"
  | 1 => .object "PocketCards$State"
  | 2 => .object "PocketCards$State"
  | 3 => .object "PocketCards$State"
  | 4 => .boolean
  | 5 => .object "PocketCards$History"
  | _ => .object "PocketCards$Text"
abbrev wsX60 : List Cond := u_ws RX6 TX6 7
theorem nmX6 : ∀ a, a < 7 → ∀ b, b < 7 → a ≠ b → (TX6 a).2.1 ≠ (TX6 b).2.1 := by decide +kernel
theorem tyX6_ok : ∀ k, k < 7 → parseFieldDescriptor (TX6 k).2.2.1 = some (tyX6 k) := by decide +kernel
abbrev cX6_init : ByteArray := prog_1_method_1_code
def yX6_init : MethodName := ⟨RX6, "<init>", "()V"⟩
abbrev cX6_put : ByteArray := prog_1_method_2_code
def yX6_put : MethodName := ⟨RX6, "put", "(I)I"⟩
abbrev cX6_take : ByteArray := prog_1_method_3_code
def yX6_take : MethodName := ⟨RX6, "take", "(I)I"⟩
abbrev cX6_sleep : ByteArray := prog_1_method_4_code
def yX6_sleep : MethodName := ⟨RX6, "sleep", "(I)I"⟩
abbrev cX6_wakeAll : ByteArray := prog_1_method_5_code
def yX6_wakeAll : MethodName := ⟨RX6, "wakeAll", "()I"⟩
abbrev cX6_leave : ByteArray := prog_1_method_6_code
def yX6_leave : MethodName := ⟨RX6, "leave", "(II)I"⟩
abbrev cX6_set : ByteArray := prog_1_method_7_code
def yX6_set : MethodName := ⟨RX6, "set", "(II)I"⟩
abbrev cX6_shuffle : ByteArray := prog_1_method_8_code
def yX6_shuffle : MethodName := ⟨RX6, "shuffle", "(I)I"⟩
abbrev cX6_forget : ByteArray := prog_1_method_9_code
def yX6_forget : MethodName := ⟨RX6, "forget", "()I"⟩
abbrev cX6_ask : ByteArray := prog_1_method_10_code
def yX6_ask : MethodName := ⟨RX6, "ask", "(II)I"⟩
abbrev cX6_walk : ByteArray := prog_1_method_11_code
def yX6_walk : MethodName := ⟨RX6, "walk", "(Z)I"⟩
abbrev cX6_frame : ByteArray := prog_1_method_12_code
def yX6_frame : MethodName := ⟨RX6, "frame", "(I)I"⟩
abbrev cX6_rounds : ByteArray := prog_1_method_13_code
def yX6_rounds : MethodName := ⟨RX6, "rounds", "(I)I"⟩
abbrev cX6_type : ByteArray := prog_1_method_14_code
def yX6_type : MethodName := ⟨RX6, "type", "(C)I"⟩
abbrev cX6_clearText : ByteArray := prog_1_method_15_code
def yX6_clearText : MethodName := ⟨RX6, "clearText", "()I"⟩
abbrev cX6_perform : ByteArray := prog_1_method_16_code
def yX6_perform : MethodName := ⟨RX6, "perform", "()I"⟩
abbrev cX6_undo : ByteArray := prog_1_method_17_code
def yX6_undo : MethodName := ⟨RX6, "undo", "()I"⟩
abbrev cX6_keep : ByteArray := prog_1_method_18_code
def yX6_keep : MethodName := ⟨RX6, "keep", "()I"⟩
abbrev cX6_restore : ByteArray := prog_1_method_19_code
def yX6_restore : MethodName := ⟨RX6, "restore", "()I"⟩
abbrev cX6_card : ByteArray := prog_1_method_20_code
def yX6_card : MethodName := ⟨RX6, "card", "(I)I"⟩
abbrev cX6_ofCard : ByteArray := prog_1_method_21_code
def yX6_ofCard : MethodName := ⟨RX6, "ofCard", "(II)I"⟩
abbrev cX6_told : ByteArray := prog_1_method_22_code
def yX6_told : MethodName := ⟨RX6, "told", "(I)I"⟩
abbrev cX6_total : ByteArray := prog_1_method_23_code
def yX6_total : MethodName := ⟨RX6, "total", "(I)I"⟩
abbrev cX6_count : ByteArray := prog_1_method_24_code
def yX6_count : MethodName := ⟨RX6, "count", "(II)I"⟩
abbrev cX6_walkTakes : ByteArray := prog_1_method_25_code
def yX6_walkTakes : MethodName := ⟨RX6, "walkTakes", "(ZI)I"⟩
abbrev cX6_roundsTake : ByteArray := prog_1_method_26_code
def yX6_roundsTake : MethodName := ⟨RX6, "roundsTake", "(II)I"⟩
abbrev cX6_bestFrame : ByteArray := prog_1_method_27_code
def yX6_bestFrame : MethodName := ⟨RX6, "bestFrame", "()I"⟩
abbrev cX6_thickest : ByteArray := prog_1_method_28_code
def yX6_thickest : MethodName := ⟨RX6, "thickest", "(I)I"⟩
abbrev cX6_recorded : ByteArray := prog_1_method_29_code
def yX6_recorded : MethodName := ⟨RX6, "recorded", "(I)I"⟩
abbrev cX6_isBeginning : ByteArray := prog_1_method_30_code
def yX6_isBeginning : MethodName := ⟨RX6, "isBeginning", "(II)Z"⟩
abbrev cX6_isFrameSize : ByteArray := prog_1_method_31_code
def yX6_isFrameSize : MethodName := ⟨RX6, "isFrameSize", "(I)Z"⟩
abbrev cX6_firstBits : ByteArray := prog_1_method_32_code
def yX6_firstBits : MethodName := ⟨RX6, "firstBits", "(II)I"⟩
abbrev cX6_firstOne : ByteArray := prog_1_method_33_code
def yX6_firstOne : MethodName := ⟨RX6, "firstOne", "(I)I"⟩
def RX7 : String := "PocketCardsModel"
def TX7 : u_T := fun k => match k with
  | 0 => ("PocketCardsModel", "z", "[I", true)
  | 1 => ("PocketCardsModel", "spare", "[I", true)
  | 2 => ("PocketCardsModel", "past", "[I", true)
  | 3 => ("PocketCardsModel", "states", "I", false)
  | 4 => ("PocketCardsModel", "kept", "[I", true)
  | 5 => ("PocketCardsModel", "isKept", "Z", false)
  | 6 => ("PocketCardsModel", "text", "[I", true)
  | 7 => ("PocketCardsModel", "length", "I", false)
  | 8 => ("PocketCardsModel", "answerMany", "I", false)
  | 9 => ("PocketCardsModel", "answering", "I", false)
  | 10 => ("PocketCardsModel", "answeringName", "I", false)
  | 11 => ("PocketCardsModel", "unlikeBits", "I", false)
  | 12 => ("PocketCardsModel", "stack", "[I", true)
  | 13 => ("PocketCardsModel", "greatest", "I", false)
  | 14 => ("PocketCardsModel", "drew", "[I", true)
  | 15 => ("PocketCardsModel", "drawn", "[I", true)
  | 16 => ("PocketCardsModel", "signs", "[I", true)
  | 17 => ("PocketCardsModel", "numbers", "[I", true)
  | 18 => ("PocketCardsModel", "orderMany", "I", false)
  | _ => ("PocketCardsModel", "spot", "I", false)
def tyX7 : Nat → FieldType := fun k => match k with
  | 0 => .array .int
  | 1 => .array .int
  | 2 => .array .int
  | 3 => .int
  | 4 => .array .int
  | 5 => .boolean
  | 6 => .array .int
  | 7 => .int
  | 8 => .int
  | 9 => .int
  | 10 => .int
  | 11 => .int
  | 12 => .array .int
  | 13 => .int
  | 14 => .array .int
  | 15 => .array .int
  | 16 => .array .int
  | 17 => .array .int
  | 18 => .int
  | _ => .int
abbrev wsX70 : List Cond := u_ws RX7 TX7 20
theorem nmX7 : ∀ a, a < 20 → ∀ b, b < 20 → a ≠ b → (TX7 a).2.1 ≠ (TX7 b).2.1 := by decide +kernel
theorem tyX7_ok : ∀ k, k < 20 → parseFieldDescriptor (TX7 k).2.2.1 = some (tyX7 k) := by decide +kernel
abbrev cX7_init : ByteArray := prog_9_method_1_code
def yX7_init : MethodName := ⟨RX7, "<init>", "()V"⟩
abbrev cX7_in : ByteArray := prog_9_method_2_code
def yX7_in : MethodName := ⟨RX7, "in", "(III)Z"⟩
abbrev cX7_of : ByteArray := prog_9_method_3_code
def yX7_of : MethodName := ⟨RX7, "of", "(II)I"⟩
abbrev cX7_lay : ByteArray := prog_9_method_4_code
def yX7_lay : MethodName := ⟨RX7, "lay", "(III)V"⟩
abbrev cX7_cardWith : ByteArray := prog_9_method_5_code
def yX7_cardWith : MethodName := ⟨RX7, "cardWith", "(I)I"⟩
abbrev cX7_copyState : ByteArray := prog_9_method_6_code
def yX7_copyState : MethodName := ⟨RX7, "copyState", "([II[II)V"⟩
abbrev cX7_recordRow : ByteArray := prog_9_method_7_code
def yX7_recordRow : MethodName := ⟨RX7, "recordRow", "([I)V"⟩
abbrev cX7_record : ByteArray := prog_9_method_8_code
def yX7_record : MethodName := ⟨RX7, "record", "()V"⟩
abbrev cX7_undo : ByteArray := prog_9_method_9_code
def yX7_undo : MethodName := ⟨RX7, "undo", "()I"⟩
abbrev cX7_keep : ByteArray := prog_9_method_10_code
def yX7_keep : MethodName := ⟨RX7, "keep", "()I"⟩
abbrev cX7_restore : ByteArray := prog_9_method_11_code
def yX7_restore : MethodName := ⟨RX7, "restore", "()I"⟩
abbrev cX7_whyNotPut : ByteArray := prog_9_method_12_code
def yX7_whyNotPut : MethodName := ⟨RX7, "whyNotPut", "(I)I"⟩
abbrev cX7_putNow : ByteArray := prog_9_method_13_code
def yX7_putNow : MethodName := ⟨RX7, "putNow", "(I)V"⟩
abbrev cX7_takeNow : ByteArray := prog_9_method_14_code
def yX7_takeNow : MethodName := ⟨RX7, "takeNow", "(I)V"⟩
abbrev cX7_put : ByteArray := prog_9_method_15_code
def yX7_put : MethodName := ⟨RX7, "put", "(I)I"⟩
abbrev cX7_take : ByteArray := prog_9_method_16_code
def yX7_take : MethodName := ⟨RX7, "take", "(I)I"⟩
abbrev cX7_awake : ByteArray := prog_9_method_17_code
def yX7_awake : MethodName := ⟨RX7, "awake", "()I"⟩
abbrev cX7_sleep : ByteArray := prog_9_method_18_code
def yX7_sleep : MethodName := ⟨RX7, "sleep", "(I)I"⟩
abbrev cX7_wakeNow : ByteArray := prog_9_method_19_code
def yX7_wakeNow : MethodName := ⟨RX7, "wakeNow", "()V"⟩
abbrev cX7_wakeAll : ByteArray := prog_9_method_20_code
def yX7_wakeAll : MethodName := ⟨RX7, "wakeAll", "()I"⟩
abbrev cX7_leave : ByteArray := prog_9_method_21_code
def yX7_leave : MethodName := ⟨RX7, "leave", "(II)I"⟩
abbrev cX7_set : ByteArray := prog_9_method_22_code
def yX7_set : MethodName := ⟨RX7, "set", "(II)I"⟩
abbrev cX7_shuffle : ByteArray := prog_9_method_23_code
def yX7_shuffle : MethodName := ⟨RX7, "shuffle", "(I)I"⟩
abbrev cX7_forget : ByteArray := prog_9_method_24_code
def yX7_forget : MethodName := ⟨RX7, "forget", "()I"⟩
abbrev cX7_tell : ByteArray := prog_9_method_25_code
def yX7_tell : MethodName := ⟨RX7, "tell", "(I)V"⟩
abbrev cX7_letGo : ByteArray := prog_9_method_26_code
def yX7_letGo : MethodName := ⟨RX7, "letGo", "()V"⟩
abbrev cX7_begins : ByteArray := prog_9_method_27_code
def yX7_begins : MethodName := ⟨RX7, "begins", "(III)Z"⟩
abbrev cX7_noAnswer : ByteArray := prog_9_method_28_code
def yX7_noAnswer : MethodName := ⟨RX7, "noAnswer", "()V"⟩
abbrev cX7_answers : ByteArray := prog_9_method_29_code
def yX7_answers : MethodName := ⟨RX7, "answers", "(I)V"⟩
abbrev cX7_clashBit : ByteArray := prog_9_method_30_code
def yX7_clashBit : MethodName := ⟨RX7, "clashBit", "()I"⟩
abbrev cX7_answer : ByteArray := prog_9_method_31_code
def yX7_answer : MethodName := ⟨RX7, "answer", "()I"⟩
abbrev cX7_askNow : ByteArray := prog_9_method_32_code
def yX7_askNow : MethodName := ⟨RX7, "askNow", "(II)I"⟩
abbrev cX7_isBeginning : ByteArray := prog_9_method_33_code
def yX7_isBeginning : MethodName := ⟨RX7, "isBeginning", "(II)Z"⟩
abbrev cX7_ask : ByteArray := prog_9_method_34_code
def yX7_ask : MethodName := ⟨RX7, "ask", "(II)I"⟩
abbrev cX7_walkNow : ByteArray := prog_9_method_35_code
def yX7_walkNow : MethodName := ⟨RX7, "walkNow", "(Z)V"⟩
abbrev cX7_walk : ByteArray := prog_9_method_36_code
def yX7_walk : MethodName := ⟨RX7, "walk", "(Z)I"⟩
abbrev cX7_draw : ByteArray := prog_9_method_37_code
def yX7_draw : MethodName := ⟨RX7, "draw", "(I)I"⟩
abbrev cX7_frameNow : ByteArray := prog_9_method_38_code
def yX7_frameNow : MethodName := ⟨RX7, "frameNow", "(I)V"⟩
abbrev cX7_isSlots : ByteArray := prog_9_method_39_code
def yX7_isSlots : MethodName := ⟨RX7, "isSlots", "(I)Z"⟩
abbrev cX7_frame : ByteArray := prog_9_method_40_code
def yX7_frame : MethodName := ⟨RX7, "frame", "(I)I"⟩
abbrev cX7_nextSize : ByteArray := prog_9_method_41_code
def yX7_nextSize : MethodName := ⟨RX7, "nextSize", "(III)I"⟩
abbrev cX7_roundsNow : ByteArray := prog_9_method_42_code
def yX7_roundsNow : MethodName := ⟨RX7, "roundsNow", "(I)I"⟩
abbrev cX7_rounds : ByteArray := prog_9_method_43_code
def yX7_rounds : MethodName := ⟨RX7, "rounds", "(I)I"⟩
abbrev cX7_type : ByteArray := prog_9_method_44_code
def yX7_type : MethodName := ⟨RX7, "type", "(C)I"⟩
abbrev cX7_clearText : ByteArray := prog_9_method_45_code
def yX7_clearText : MethodName := ⟨RX7, "clearText", "()I"⟩
abbrev cX7_sees : ByteArray := prog_9_method_46_code
def yX7_sees : MethodName := ⟨RX7, "sees", "(II)Z"⟩
abbrev cX7_takes : ByteArray := prog_9_method_47_code
def yX7_takes : MethodName := ⟨RX7, "takes", "(I)Z"⟩
abbrev cX7_number : ByteArray := prog_9_method_48_code
def yX7_number : MethodName := ⟨RX7, "number", "(II)I"⟩
abbrev cX7_readOrder : ByteArray := prog_9_method_49_code
def yX7_readOrder : MethodName := ⟨RX7, "readOrder", "()Z"⟩
abbrev cX7_readText : ByteArray := prog_9_method_50_code
def yX7_readText : MethodName := ⟨RX7, "readText", "()Z"⟩
abbrev cX7_whyNot : ByteArray := prog_9_method_51_code
def yX7_whyNot : MethodName := ⟨RX7, "whyNot", "(II)I"⟩
abbrev cX7_carryOut : ByteArray := prog_9_method_52_code
def yX7_carryOut : MethodName := ⟨RX7, "carryOut", "(II)V"⟩
abbrev cX7_perform : ByteArray := prog_9_method_53_code
def yX7_perform : MethodName := ⟨RX7, "perform", "()I"⟩
abbrev cX7_card : ByteArray := prog_9_method_54_code
def yX7_card : MethodName := ⟨RX7, "card", "(I)I"⟩
abbrev cX7_shares : ByteArray := prog_9_method_55_code
def yX7_shares : MethodName := ⟨RX7, "shares", "(I)I"⟩
abbrev cX7_ofCard : ByteArray := prog_9_method_56_code
def yX7_ofCard : MethodName := ⟨RX7, "ofCard", "(II)I"⟩
abbrev cX7_told : ByteArray := prog_9_method_57_code
def yX7_told : MethodName := ⟨RX7, "told", "(I)I"⟩
abbrev cX7_leaving : ByteArray := prog_9_method_58_code
def yX7_leaving : MethodName := ⟨RX7, "leaving", "()I"⟩
abbrev cX7_total : ByteArray := prog_9_method_59_code
def yX7_total : MethodName := ⟨RX7, "total", "(I)I"⟩
abbrev cX7_withBeginning : ByteArray := prog_9_method_60_code
def yX7_withBeginning : MethodName := ⟨RX7, "withBeginning", "(II)I"⟩
abbrev cX7_count : ByteArray := prog_9_method_61_code
def yX7_count : MethodName := ⟨RX7, "count", "(II)I"⟩
abbrev cX7_walkTakes : ByteArray := prog_9_method_62_code
def yX7_walkTakes : MethodName := ⟨RX7, "walkTakes", "(ZI)I"⟩
abbrev cX7_roundsTake : ByteArray := prog_9_method_63_code
def yX7_roundsTake : MethodName := ⟨RX7, "roundsTake", "(II)I"⟩
abbrev cX7_bestFrame : ByteArray := prog_9_method_64_code
def yX7_bestFrame : MethodName := ⟨RX7, "bestFrame", "()I"⟩
abbrev cX7_thickest : ByteArray := prog_9_method_65_code
def yX7_thickest : MethodName := ⟨RX7, "thickest", "(I)I"⟩
def RL : String := "PocketCardsLaw"
abbrev cL_law : ByteArray := code
def yL_law : MethodName := ⟨RL, "law", "([I)Z"⟩
abbrev vwCl : List vw_C := [(RX0, TX0, 2), (RX1, TX1, 7), (RX2, TX2, 7), (RX3, TX3, 8), (RX4, TX4, 7), (RX5, TX5, 2), (RX6, TX6, 7), (RX7, TX7, 20)]
theorem inX0 : ∀ w ∈ wsX00, w ∈ lw_tbl := by decide +kernel
theorem inX1 : ∀ w ∈ wsX10, w ∈ lw_tbl := by decide +kernel
theorem inX2 : ∀ w ∈ wsX20, w ∈ lw_tbl := by decide +kernel
theorem inX3 : ∀ w ∈ wsX30, w ∈ lw_tbl := by decide +kernel
theorem inX4 : ∀ w ∈ wsX40, w ∈ lw_tbl := by decide +kernel
theorem inX5 : ∀ w ∈ wsX50, w ∈ lw_tbl := by decide +kernel
theorem inX6 : ∀ w ∈ wsX60, w ∈ lw_tbl := by decide +kernel
theorem inX7 : ∀ w ∈ wsX70, w ∈ lw_tbl := by decide +kernel
end
section
/-! THE ABSTRACT PICTURE: objects by numbers (0: the script, 1 .. n: what the law made, in order), ints as integers -/
def tbG : List Cond := lw_tbl.filter goodWord
theorem mg {w : Cond} (i : Nat) (h : lw_tbl[i]? = some w) (hg : goodWord w = true) : w ∈ tbG := List.mem_filter.mpr ⟨List.mem_of_getElem? h, hg⟩
abbrev AV : Type := Int ⊕ Option Nat
abbrev AH : Type := Nat × (Nat → Nat × Nat) × (Nat → Int → Option Nat) × (Nat → Int → Int)
abbrev MD : Type := MethodName × ByteArray × Nat × Option FieldType × (Nat × Nat)
def hk (h : AH) : Nat → Nat × Nat := h.2.1
def hr (h : AH) : Nat → Int → Option Nat := h.2.2.1
def hi (h : AH) : Nat → Int → Int := h.2.2.2
def up (h : AH) (j : Nat) (k v : Int) : AH := (h.1, h.2.1, h.2.2.1, fun a b => if a = j ∧ b = k then v else h.2.2.2 a b)
def ur (h : AH) (j : Nat) (k : Int) (v : Option Nat) : AH := (h.1, h.2.1, fun a b => if a = j ∧ b = k then v else h.2.2.1 a b, h.2.2.2)
def nw (h : AH) (kd : Nat × Nat) : AH := (h.1 + 1, fun a => if a = h.1 + 1 then kd else h.2.1 a, fun a b => if a = h.1 + 1 then none else h.2.2.1 a b, fun a b => if a = h.1 + 1 then 0 else h.2.2.2 a b)
theorem hi_up {h : AH} {j : Nat} {k v : Int} {a : Nat} {b : Int} : hi (up h j k v) a b = if a = j ∧ b = k then v else hi h a b := rfl
theorem hk_up {h : AH} {j : Nat} {k v : Int} : hk (up h j k v) = hk h := rfl
theorem hr_up {h : AH} {j : Nat} {k v : Int} : hr (up h j k v) = hr h := rfl
theorem hi_ur {h : AH} {j : Nat} {k : Int} {v : Option Nat} : hi (ur h j k v) = hi h := rfl
theorem hk_ur {h : AH} {j : Nat} {k : Int} {v : Option Nat} : hk (ur h j k v) = hk h := rfl
theorem hr_ur {h : AH} {j : Nat} {k : Int} {v : Option Nat} {a : Nat} {b : Int} : hr (ur h j k v) a b = if a = j ∧ b = k then v else hr h a b := rfl
def az (b B : Nat) : Nat → Nat
  | 0 => b
  | j + 1 => B + j
def cv (b B : Nat) : AV → Value
  | .inl v => .int (Int32.ofInt v)
  | .inr r => va_rf (r.map (az b B))
def ok : AV → Prop
  | .inl v => -2147483648 ≤ v ∧ v < 2147483648
  | .inr _ => True
abbrev rg (v : Int) : Prop := -2147483648 ≤ v ∧ v < 2147483648
def w (v : Int) : Int := (Int32.ofInt v).toInt
theorem ti {v : Int} (h : rg v) : (Int32.ofInt v).toInt = v := Int32.toInt_ofInt_of_le h.1 h.2
theorem w_id {v : Int} (h : rg v) : w v = v := ti h
theorem w_rg (v : Int) : rg (w v) := ⟨Int32.le_toInt _, Int32.toInt_lt _⟩
theorem w_of (v : Int) : Int32.ofInt (w v) = Int32.ofInt v := Int32.ofInt_toInt _
theorem rg_of (x : Int32) : rg x.toInt := ⟨Int32.le_toInt _, Int32.toInt_lt _⟩
theorem w_eq (v : Int) : w v = (v + 2147483648) % 4294967296 - 2147483648 := by
  unfold w
  rw [Int32.toInt_ofInt, Int.bmod_def]
  simp only [Int32.size]
  split <;> omega
def cN (ci : Nat) : Nat := match ci with | 0 => 2 | 1 => 7 | 2 => 7 | 3 => 8 | 4 => 7 | 5 => 2 | 6 => 7 | _ => 20
def cR (ci : Nat) : String := match ci with | 0 => RX0 | 1 => RX1 | 2 => RX2 | 3 => RX3 | 4 => RX4 | 5 => RX5 | 6 => RX6 | _ => RX7
def cU (ci : Nat) : u_T := match ci with | 0 => TX0 | 1 => TX1 | 2 => TX2 | 3 => TX3 | 4 => TX4 | 5 => TX5 | 6 => TX6 | _ => TX7
def cT (ci : Nat) : Nat → FieldType := match ci with | 0 => tyX0 | 1 => tyX1 | 2 => tyX2 | 3 => tyX3 | 4 => tyX4 | 5 => tyX5 | 6 => tyX6 | _ => tyX7
def isR : FieldType → Bool
  | .object _ => true
  | .array _ => true
  | _ => false
theorem cl_at {ci : Nat} (h : ci < 8) : vwCl[ci]? = some (cR ci, cU ci, cN ci) := by
  match ci, h with
  | 0, _ => rfl
  | 1, _ => rfl
  | 2, _ => rfl
  | 3, _ => rfl
  | 4, _ => rfl
  | 5, _ => rfl
  | 6, _ => rfl
  | 7, _ => rfl
theorem cl_words {ci : Nat} (h : ci < 8) : ∀ w ∈ u_ws (cR ci) (cU ci) (cN ci), w ∈ tbG := by
  have g : ∀ k, k < 8 → ∀ w ∈ u_ws (cR k) (cU k) (cN k), goodWord w = true := by decide +kernel
  intro w hw
  refine List.mem_filter.mpr ⟨?_, g ci h w hw⟩
  match ci, h, hw with
  | 0, _, hw => exact inX0 w hw
  | 1, _, hw => exact inX1 w hw
  | 2, _, hw => exact inX2 w hw
  | 3, _, hw => exact inX3 w hw
  | 4, _, hw => exact inX4 w hw
  | 5, _, hw => exact inX5 w hw
  | 6, _, hw => exact inX6 w hw
  | 7, _, hw => exact inX7 w hw
theorem cl_nm {ci : Nat} (h : ci < 8) : ∀ a, a < cN ci → ∀ b, b < cN ci → a ≠ b → (cU ci a).2.1 ≠ (cU ci b).2.1 := by
  match ci, h with
  | 0, _ => exact nmX0
  | 1, _ => exact nmX1
  | 2, _ => exact nmX2
  | 3, _ => exact nmX3
  | 4, _ => exact nmX4
  | 5, _ => exact nmX5
  | 6, _ => exact nmX6
  | 7, _ => exact nmX7
theorem cl_ty {ci : Nat} (h : ci < 8) : ∀ k, k < cN ci → parseFieldDescriptor (cU ci k).2.2.1 = some (cT ci k) := by
  match ci, h with
  | 0, _ => exact tyX0_ok
  | 1, _ => exact tyX1_ok
  | 2, _ => exact tyX2_ok
  | 3, _ => exact tyX3_ok
  | 4, _ => exact tyX4_ok
  | 5, _ => exact tyX5_ok
  | 6, _ => exact tyX6_ok
  | 7, _ => exact tyX7_ok
def fvl (b B : Nat) (h : AH) (j ci k : Nat) : Value := if isR (cT ci k) = true then va_rf ((hr h j k).map (az b B)) else .int (Int32.ofInt (hi h j k))
def enc (b B : Nat) (ca : Nat → ClassId) (h : AH) (j : Nat) : va_E := match hk h j with
  | (0, ci) => .inr (ci, (List.range (cN ci)).map (fvl b B h j ci))
  | (1, n) => .inl (ca 1, n, .inl fun k => Int32.ofInt (hi h j k))
  | (2, n) => .inl (ca 2, n, .inl fun k => Int32.ofInt (hi h j k))
  | (3, n) => .inl (ca 3, n, .inl fun k => Int32.ofInt (hi h j k))
  | (_, n) => .inl (ca 4, n, .inr (.inr (.inr (.inr fun k => (hr h j k).map (az b B)))))
def wso (b B : Nat) (ca : Nat → ClassId) (h : AH) : va_W := (List.range h.1).map fun j => (B + j, enc b B ca h (j + 1))
def tys (ca : Nat → ClassId) : List (ClassId × FieldType) := [(ca 1, .int), (ca 2, .boolean), (ca 3, .char), (ca 4, .object RX2)]
def nsL : List (String × Nat × MethodName × String) := [(RX2, 11, yX1_init, "PocketCards"), (RX2, 20, yX5_init, "PocketCards"), (RX2, 27, yX3_init, "PocketCards"), (RX6, 38, yX4_init, "PocketCards"), (RX1, 52, yX6_firstBits, "PocketCards"), (RX2, 142, yX6_firstOne, "PocketCards"), (RX2, 157, yX6_isBeginning, "PocketCards"), (RX2, 164, yX6_firstBits, "PocketCards"), (RX2, 167, yX6_isFrameSize, "PocketCards"), (RX1, 39, yX6_firstOne, "PocketCards")]
/-- what the tables say that isn't kept word for word: links to nest mates, the class of rows of states -/
def NW (s : State) : Prop := (∀ q ∈ nsL, va_Nw (.methodLinkNest q.1 q.2.1 q.2.2.1 q.2.2.2) s) ∧ va_AO RX2 s
theorem NW.warm {s U : State} (hW : s.WarmedH U.vm) (h : NW s) : NW U := ⟨fun q hq => (h.1 q hq).warmM hW, h.2.moved hW.alike⟩
theorem NW.call {U : State} {g : JFrame} {mk : MethodId} {a : Array Value} (h : NW U) : NW (U.calling g mk a) := ⟨fun q hq => (h.1 q hq).same rfl rfl, h.2.moved (u := U) (U := U.calling g mk a) (Vm.Alike.refl U.vm)⟩
def okH (h : AH) : Prop := (∀ j k, rg (hi h j k)) ∧ hk h 0 = (9, 0) ∧ (∀ j, h.1 < j → hk h j = (9, 0)) ∧ ∀ j ci, hk h j = (0, ci) → ci < 8
def HP (b B : Nat) (D : va_G) (ca : Nat → ClassId) (h : AH) (H : Heap) : Prop := H.size = B + h.1 ∧ va_P D vwCl (wso b B ca h) H ∧ okH h
theorem wso_at {b B : Nat} {ca : Nat → ClassId} {h : AH} {j : Nat} (hj : j < h.1) : (wso b B ca h)[j]? = some (B + j, enc b B ca h (j + 1)) := by
  simp [wso, hj]
theorem wso_D {b B : Nat} {ca : Nat → ClassId} {h : AH} : va_D (fun q => B ≤ q) (wso b B ca h) := by
  have key : ∀ (i : Nat) (q : Nat × va_E), (wso b B ca h)[i]? = some q → q.1 = B + i := by
    intro i q hq
    have hl : i < (wso b B ca h).length := (List.getElem?_eq_some_iff.mp hq).1
    have hl' : i < h.1 := by simpa [wso] using hl
    rw [wso_at hl'] at hq
    cases hq
    rfl
  refine ⟨fun i j p q hp hq e => ?_, fun k q hq => ?_⟩
  · have h1 := key i p hp
    have h2 := key j q hq
    omega
  · have h1 := key k q hq
    show B ≤ q.1
    omega
theorem wso_set {b B : Nat} {ca : Nat → ClassId} {h h' : AH} {j : Nat} (hj : j < h.1) (hn : h'.1 = h.1) (he : ∀ i, i ≠ j + 1 → enc b B ca h' i = enc b B ca h i) : (wso b B ca h).set j (B + j, enc b B ca h' (j + 1)) = wso b B ca h' := by
  apply List.ext_getElem?
  intro i
  by_cases hij : i = j
  · subst hij
    rw [List.getElem?_set_self (by simpa [wso] using hj), wso_at (by omega)]
  · rw [List.getElem?_set_ne (Ne.symm hij)]
    by_cases hi : i < h.1
    · rw [wso_at hi, wso_at (by omega), he (i + 1) (by omega)]
    · rw [List.getElem?_eq_none (by simp [wso]; omega), List.getElem?_eq_none (by simp [wso]; omega)]
theorem wso_push {b B : Nat} {ca : Nat → ClassId} {h h' : AH} (hn : h'.1 = h.1 + 1) (he : ∀ i, i ≤ h.1 → enc b B ca h' i = enc b B ca h i) : wso b B ca h ++ [(B + h.1, enc b B ca h' (h.1 + 1))] = wso b B ca h' := by
  unfold wso
  rw [hn, List.range_succ, List.map_append]
  congr 1
  apply List.map_congr_left
  intro a ha
  have ha' := List.mem_range.mp ha
  rw [he (a + 1) (by omega)]
theorem enc_cong {b B : Nat} {ca : Nat → ClassId} {h h' : AH} {i : Nat} (h1 : hk h' i = hk h i) (h2 : ∀ k, hr h' i k = hr h i k) (h3 : ∀ k, hi h' i k = hi h i k) : enc b B ca h' i = enc b B ca h i := by
  have f : ∀ ci, fvl b B h' i ci = fvl b B h i ci := by
    intro ci
    funext k
    simp only [fvl, h2, h3]
  unfold enc
  simp only [h1, h2, h3, f]
/-! locals -/
def lpr (b B : Nat) : Nat → List (Option AV) → List (Nat × Value)
  | _, [] => []
  | i, none :: t => lpr b B (i + 1) t
  | i, some v :: t => (i, cv b B v) :: lpr b B (i + 1) t
theorem lpr_mem {b B : Nat} : ∀ (t : List (Option AV)) (i k : Nat) (v : AV), t[k]? = some (some v) → (i + k, cv b B v) ∈ lpr b B i t
  | [], i, k, v, h => by simp at h
  | none :: t, i, 0, v, h => by simp at h
  | none :: t, i, k + 1, v, h => by
    have := lpr_mem (b := b) (B := B) t (i + 1) k v (by simpa using h)
    rw [show i + (k + 1) = i + 1 + k by omega]
    exact this
  | some u :: t, i, 0, v, h => by
    simp at h
    subst h
    exact List.mem_cons_self
  | some u :: t, i, k + 1, v, h => by
    have := lpr_mem (b := b) (B := B) t (i + 1) k v (by simpa using h)
    rw [show i + (k + 1) = i + 1 + k by omega]
    exact List.mem_cons_of_mem _ this
theorem lpr_mem' {b B : Nat} : ∀ (t : List (Option AV)) (i : Nat) (q : Nat × Value), q ∈ lpr b B i t → ∃ k v, t[k]? = some (some v) ∧ q = (i + k, cv b B v)
  | [], i, q, h => by simp [lpr] at h
  | none :: t, i, q, h => by
    obtain ⟨k, v, h1, h2⟩ := lpr_mem' t (i + 1) q h
    exact ⟨k + 1, v, by simpa using h1, by rw [h2]; congr 1; omega⟩
  | some u :: t, i, q, h => by
    rcases List.mem_cons.mp h with h | h
    · exact ⟨0, u, rfl, h⟩
    · obtain ⟨k, v, h1, h2⟩ := lpr_mem' t (i + 1) q h
      exact ⟨k + 1, v, by simpa using h1, by rw [h2]; congr 1; omega⟩
def LR (b B : Nat) (ls : List (Option AV)) (lc : Array Slot) : Prop := lv_has lc ls.length (lpr b B 0 ls) ∧ ∀ (k : Nat) (v : AV), ls[k]? = some (some v) → ok v
theorem LR.get {b B : Nat} {ls : List (Option AV)} {lc : Array Slot} (h : LR b B ls lc) {i : Nat} {v : AV} (hi : ls[i]? = some (some v)) : lc[i]? = some (.val (cv b B v)) := by
  have := h.1.2.2 _ (lpr_mem ls 0 i v hi)
  simpa using this
theorem cv_cat {b B : Nat} (v : AV) : (cv b B v).category = 1 := by
  rcases v with v | _ | j <;> rfl
theorem LR.set {b B : Nat} {ls : List (Option AV)} {lc lc' : Array Slot} (h : LR b B ls lc) {i : Nat} {v : AV} (hi : i < ls.length) (hv : ok v) (h' : lv_has lc' ls.length ((i, cv b B v) :: (lpr b B 0 ls).filter (fun q => !(q.1 == i) && !(q.1 + 1 == i && q.2.category == 2)))) : LR b B (ls.set i (some v)) lc' := by
  refine ⟨⟨by rw [List.length_set]; exact h'.1, h'.2.1, fun q hq => ?_⟩, fun k u hk => ?_⟩
  · obtain ⟨k, u, h1, h2⟩ := lpr_mem' _ _ _ hq
    refine h'.2.2 q ?_
    by_cases hki : k = i
    · subst hki
      rw [List.getElem?_set_self hi] at h1
      cases h1
      rw [h2, Nat.zero_add]
      exact List.mem_cons_self
    · rw [List.getElem?_set_ne (Ne.symm hki)] at h1
      refine List.mem_cons_of_mem _ (List.mem_filter.mpr ⟨?_, ?_⟩)
      · rw [h2]
        exact lpr_mem ls 0 k u h1
      · rw [h2]
        simp [cv_cat, hki]
  · by_cases hki : k = i
    · subst hki
      rw [List.getElem?_set_self hi] at hk
      cases hk
      exact hv
    · rw [List.getElem?_set_ne (Ne.symm hki)] at hk
      exact h.2 k u hk
/-! the judgement -/
def CX (md : MD) (d : Nat) (scr : Option (Nat × (Nat → Int))) (p : Program) (R : Room) (s : State) (m : MethodId) (args : Array Value) (meth : Method) (c : Code) (b B : Nat) (D : va_G) (ca : Nat → ClassId) : Prop :=
  p.tables.exec = Jvm.exec ∧ c.code = md.2.1 ∧ c.maxLocals = md.2.2.1 ∧ s.vm.findClass md.1.cls = some m.cls ∧ (∀ w ∈ tbG, w.before args s = true) ∧ meth.name = md.1.name ∧ va_K D vwCl (tys ca) s ∧ (B ≤ s.heap.size ∧ NW s) ∧ R.cells = md.2.2.2.2.1 ∧ R.slots = md.2.2.2.2.2 ∧ d ≤ R.frames ∧ 40 * d ≤ R.locals ∧ (∀ q, scr = some q → va_X b q.1 (fun j => Int32.ofInt (q.2 j)) s s.heap ∧ b < B ∧ B = s.heap.size ∧ q.1 < 2147483648 ∧ ∀ j, rg (q.2 j))
def HR (b B : Nat) (D : va_G) (ca : Nat → ClassId) (H0 : Heap) (h : AH) (H : Heap) (locs : List Loc) : Prop := HP b B D ca h H ∧ va_S (fun q => B ≤ q) H0 H locs
def okr (t : Option FieldType) (v : Int) : Prop := match t with
  | some .int => rg v
  | some .boolean => v = 0 ∨ v = 1
  | some .char => 0 ≤ v ∧ v < 65536
  | _ => False
def AW (md : MD) (d : Nat) (scr : Option (Nat × (Nat → Int))) (Q : Option Int → AH → Prop) (pc : Nat) (ls : List (Option AV)) (st : List AV) (h : AH) (k : Nat × Nat) : Prop :=
  ∀ (p : Program) (l : Launch) (e : Env) (R : Room) (s : State) (m : MethodId) (args : Array Value) (below : List Frame) (meth : Method) (c : Code) (b B : Nat) (D : va_G) (ca : Nat → ClassId) (H : Heap) (locs : List Loc) (lc : Array Slot) (Qw : State → Prop),
    CX md d scr p R s m args meth c b B D ca → ls.length = md.2.2.1 → HR b B D ca s.heap h H locs → LR b B ls lc → (∀ a ∈ st, ok a) →
    (∀ (r : Option Int) (pc : Nat) (h : AH) (H : Heap) (locs : List Loc) (lc : Array Slot) (k : Nat × Nat), HR b B D ca s.heap h H locs → Q r h → k.1 ≤ md.2.2.2.2.1 → k.2 ≤ md.2.2.2.2.2 →
      match r with
      | none => md.2.2.2.1 = none → decode md.2.1 pc = .ok (.return_, 1) → W p l e R s m args below meth c H locs k.1 k.2 Qw (F0 m pc lc [])
      | some v => okr md.2.2.2.1 v → decode md.2.1 pc = .ok (.ireturn, 1) → W p l e R s m args below meth c H locs k.1 k.2 Qw (F0 m pc lc [.int (Int32.ofInt v)])) →
    W p l e R s m args below meth c H locs k.1 k.2 Qw (F0 m pc lc (st.map (cv b B)))
def Pst (b B : Nat) (D : va_G) (ca : Nat → ClassId) (Q : Option Int → AH → Prop) : Array Value → State → Outcome → State → Prop := fun _ st oc t =>
  (∃ (r : Option Int) (h' : AH), oc = .returned (r.map fun v => .int (Int32.ofInt v)) ∧ (∀ v, r = some v → rg v) ∧ Q r h' ∧ HP b B D ca h' t.heap) ∧ va_F (fun q => B ≤ q) st t
def Prc (b B : Nat) (D : va_G) (ca : Nat → ClassId) (as : List AV) (h : AH) : Array Value → State → Prop := va_Pc (as.map (cv b B)) fun U => HP b B D ca h U.heap ∧ va_K D vwCl (tys ca) U ∧ NW U
def rmo (d : Nat) (md : MD) : Room := { frames := d, cells := md.2.2.2.2.1, slots := md.2.2.2.2.2, locals := 40 * d }
def wmo (md : MD) : List Cond := .code md.1 md.2.1 md.2.2.1 md.2.2.2.1 :: tbG
def AM (d : Nat) (md : MD) (as : List AV) (h : AH) (Q : Option Int → AH → Prop) : Prop :=
  ∀ (l : Launch) (b B : Nat) (D : va_G) (ca : Nat → ClassId), (∀ a ∈ as, ok a) → Met l md.1 (wmo md) (rmo d md) (Prc b B D ca as h) (Pst b B D ca Q) md.2.2.2.2.1 md.2.2.2.2.2 (fun q => B ≤ q)
end
section
section RU
variable {md : MD} {d : Nat} {scr : Option (Nat × (Nat → Int))} {Q : Option Int → AH → Prop} {pc : Nat} {ls : List (Option AV)} {st : List AV} {h : AH} {k : Nat × Nat}
theorem ok_of {st : List AV} {a : AV} (ha : ok a) (h : ∀ x ∈ st, ok x) : ∀ x ∈ a :: st, ok x := fun x hx => (List.mem_cons.mp hx).elim (fun e => e ▸ ha) (h x)
theorem ok_tl {st : List AV} {a : AV} (h : ∀ x ∈ a :: st, ok x) : ∀ x ∈ st, ok x := fun x hx => h x (List.mem_cons_of_mem _ hx)
theorem ok_hd {st : List AV} {a : AV} (h : ∀ x ∈ a :: st, ok x) : ok a := h a List.mem_cons_self
theorem rg_i8 (n : Int) : rg (Int8.ofInt n).toInt32.toInt := rg_of _
/-! constants -/
theorem aw_int {n : Int} {len : Nat} {i : Instr} (hd : decode md.2.1 pc = .ok (i, len)) (hi : (i = .iconst n ∧ len = 1 ∧ rg n) ∨ (i = .bipush n ∧ len = 2 ∧ -128 ≤ n ∧ n < 128) ∨ (i = .sipush n ∧ len = 3 ∧ -32768 ≤ n ∧ n < 32768))
    (kk : AW md d scr Q (pc + len) ls (.inl n :: st) h k) : AW md d scr Q pc ls st h k := by
  intro p l e R s m args below meth c b B D ca H locs lc Qw C hlen hH hL hst RH
  rcases hi with ⟨rfl, rfl, hn⟩ | ⟨rfl, rfl, hn⟩ | ⟨rfl, rfl, hn⟩
  · exact lv_iconst (v := Int32.ofInt n) C.1 C.2.1 hd rfl (kk p l e R s m args below meth c b B D ca H locs lc Qw C hlen hH hL (ok_of hn hst) RH)
  · refine lv_bipush (v := Int32.ofInt n) C.1 C.2.1 hd ?_ (kk p l e R s m args below meth c b B D ca H locs lc Qw C hlen hH hL (ok_of ⟨by omega, by omega⟩ hst) RH)
    apply Int32.toInt_inj.mp
    rw [ti ⟨by omega, by omega⟩, Int8.toInt_toInt32]
    exact Int8.toInt_ofInt_of_le (by omega) (by omega)
  · refine lv_sipush (v := Int32.ofInt n) C.1 C.2.1 hd ?_ (kk p l e R s m args below meth c b B D ca H locs lc Qw C hlen hH hL (ok_of ⟨by omega, by omega⟩ hst) RH)
    apply Int32.toInt_inj.mp
    rw [ti ⟨by omega, by omega⟩, Int16.toInt_toInt32]
    exact Int16.toInt_ofInt_of_le (by omega) (by omega)
theorem aw_iconst {n : Int} (hd : decode md.2.1 pc = .ok (.iconst n, 1)) (kk : AW md d scr Q (pc + 1) ls (.inl n :: st) h k) (hn : rg n := by decide) : AW md d scr Q pc ls st h k := aw_int hd (Or.inl ⟨rfl, rfl, hn⟩) kk
theorem aw_bipush {n : Int} (hd : decode md.2.1 pc = .ok (.bipush n, 2)) (kk : AW md d scr Q (pc + 2) ls (.inl n :: st) h k) (hn : -128 ≤ n ∧ n < 128 := by decide) : AW md d scr Q pc ls st h k := aw_int hd (Or.inr (Or.inl ⟨rfl, rfl, hn⟩)) kk
theorem aw_sipush {n : Int} (hd : decode md.2.1 pc = .ok (.sipush n, 3)) (kk : AW md d scr Q (pc + 3) ls (.inl n :: st) h k) (hn : -32768 ≤ n ∧ n < 32768 := by decide) : AW md d scr Q pc ls st h k := aw_int hd (Or.inr (Or.inr ⟨rfl, rfl, hn⟩)) kk
theorem aw_ldc {n : Int} {i : Nat} (hd : decode md.2.1 pc = .ok (.ldc i, 2)) (hc : Jvm.Cond.constant md.1.cls i (Int32.ofInt n) ∈ tbG) (hn : rg n) (kk : AW md d scr Q (pc + 2) ls (.inl n :: st) h k) : AW md d scr Q pc ls st h k := by
  intro p l e R s m args below meth c b B D ca H locs lc Qw C hlen hH hL hst RH
  exact lv_ldc C.1 C.2.1 C.2.2.2.1 (C.2.2.2.2.1 _ hc) hd (kk p l e R s m args below meth c b B D ca H locs lc Qw C hlen hH hL (ok_of hn hst) RH)
/-! locals -/
theorem aw_iload {i : Nat} {v : Int} (hd : decode md.2.1 pc = .ok (.iload i, 2)) (hl : ls[i]? = some (some (.inl v))) (kk : AW md d scr Q (pc + 2) ls (.inl v :: st) h k) : AW md d scr Q pc ls st h k := by
  intro p l e R s m args below meth c b B D ca H locs lc Qw C hlen hH hL hst RH
  exact lv_iload C.1 C.2.1 hd (hL.get hl) (kk p l e R s m args below meth c b B D ca H locs lc Qw C hlen hH hL (ok_of (hL.2 _ _ hl) hst) RH)
theorem aw_iload_n {i : Fin 4} {v : Int} (hd : decode md.2.1 pc = .ok (.iload_n i, 1)) (hl : ls[i.val]? = some (some (.inl v))) (kk : AW md d scr Q (pc + 1) ls (.inl v :: st) h k) : AW md d scr Q pc ls st h k := by
  intro p l e R s m args below meth c b B D ca H locs lc Qw C hlen hH hL hst RH
  exact lv_iload_n C.1 C.2.1 hd rfl (hL.get hl) (kk p l e R s m args below meth c b B D ca H locs lc Qw C hlen hH hL (ok_of (hL.2 _ _ hl) hst) RH)
theorem aw_aload {i : Nat} {r : Option Nat} (hd : decode md.2.1 pc = .ok (.aload i, 2)) (hl : ls[i]? = some (some (.inr r))) (kk : AW md d scr Q (pc + 2) ls (.inr r :: st) h k) : AW md d scr Q pc ls st h k := by
  intro p l e R s m args below meth c b B D ca H locs lc Qw C hlen hH hL hst RH
  have h1 := kk p l e R s m args below meth c b B D ca H locs lc Qw C hlen hH hL (ok_of trivial hst) RH
  have h2 := hL.get hl
  cases r with
  | none => exact lv_aloadN C.1 C.2.1 hd h2 h1
  | some j => exact lv_aload C.1 C.2.1 hd h2 h1
theorem aw_aload_n {i : Fin 4} {r : Option Nat} (hd : decode md.2.1 pc = .ok (.aload_n i, 1)) (hl : ls[i.val]? = some (some (.inr r))) (kk : AW md d scr Q (pc + 1) ls (.inr r :: st) h k) : AW md d scr Q pc ls st h k := by
  intro p l e R s m args below meth c b B D ca H locs lc Qw C hlen hH hL hst RH
  have h1 := kk p l e R s m args below meth c b B D ca H locs lc Qw C hlen hH hL (ok_of trivial hst) RH
  have h2 := hL.get hl
  cases r with
  | none => exact lv_aload_nN C.1 C.2.1 hd rfl h2 h1
  | some j => exact lv_aload_n C.1 C.2.1 hd rfl h2 h1
theorem aw_istore {i : Nat} {v : Int} (hd : decode md.2.1 pc = .ok (.istore i, 2)) (hi : i < ls.length) (kk : AW md d scr Q (pc + 2) (ls.set i (some (.inl v))) st h k) : AW md d scr Q pc ls (.inl v :: st) h k := by
  intro p l e R s m args below meth c b B D ca H locs lc Qw C hlen hH hL hst RH
  exact lv_istore C.1 C.2.1 hd hL.1 hi rfl fun ls' h' => kk p l e R s m args below meth c b B D ca H locs ls' Qw C (by rw [List.length_set]; exact hlen) hH (hL.set (v := .inl v) hi (ok_hd hst) h') (ok_tl hst) RH
theorem aw_istore_n {i : Fin 4} {v : Int} (hd : decode md.2.1 pc = .ok (.istore_n i, 1)) (hi : i.val < ls.length) (kk : AW md d scr Q (pc + 1) (ls.set i.val (some (.inl v))) st h k) : AW md d scr Q pc ls (.inl v :: st) h k := by
  intro p l e R s m args below meth c b B D ca H locs lc Qw C hlen hH hL hst RH
  exact lv_istore_n C.1 C.2.1 hd rfl hL.1 hi rfl fun ls' h' => kk p l e R s m args below meth c b B D ca H locs ls' Qw C (by rw [List.length_set]; exact hlen) hH (hL.set (v := .inl v) hi (ok_hd hst) h') (ok_tl hst) RH
theorem aw_astore {i : Nat} {r : Nat} (hd : decode md.2.1 pc = .ok (.astore i, 2)) (hi : i < ls.length) (kk : AW md d scr Q (pc + 2) (ls.set i (some (.inr (some r)))) st h k) : AW md d scr Q pc ls (.inr (some r) :: st) h k := by
  intro p l e R s m args below meth c b B D ca H locs lc Qw C hlen hH hL hst RH
  exact lv_astore C.1 C.2.1 hd hL.1 hi rfl fun ls' h' => kk p l e R s m args below meth c b B D ca H locs ls' Qw C (by rw [List.length_set]; exact hlen) hH (hL.set (v := .inr (some r)) hi trivial h') (ok_tl hst) RH
theorem aw_astore_n {i : Fin 4} {r : Nat} (hd : decode md.2.1 pc = .ok (.astore_n i, 1)) (hi : i.val < ls.length) (kk : AW md d scr Q (pc + 1) (ls.set i.val (some (.inr (some r)))) st h k) : AW md d scr Q pc ls (.inr (some r) :: st) h k := by
  intro p l e R s m args below meth c b B D ca H locs lc Qw C hlen hH hL hst RH
  exact lv_astore_n C.1 C.2.1 hd rfl hL.1 hi rfl fun ls' h' => kk p l e R s m args below meth c b B D ca H locs ls' Qw C (by rw [List.length_set]; exact hlen) hH (hL.set (v := .inr (some r)) hi trivial h') (ok_tl hst) RH
theorem aw_iinc_w {i : Nat} {n v : Int} (hd : decode md.2.1 pc = .ok (.iinc i n, 3)) (hl : ls[i]? = some (some (.inl v))) (kk : AW md d scr Q (pc + 3) (ls.set i (some (.inl (w (v + n))))) st h k) : AW md d scr Q pc ls st h k := by
  intro p l e R s m args below meth c b B D ca H locs lc Qw C hlen hH hL hst RH
  have hi : i < ls.length := (List.getElem?_eq_some_iff.mp hl).1
  obtain ⟨kx, hkx⟩ := List.getElem?_of_mem (lpr_mem (b := b) (B := B) ls 0 i _ hl)
  rw [Nat.zero_add] at hkx
  exact lv_iinc (v := Int32.ofInt (w (v + n))) C.1 C.2.1 hd hL.1 hkx (by rw [w_of, Int32.ofInt_add]) hi rfl fun ls' h' => kk p l e R s m args below meth c b B D ca H locs ls' Qw C (by rw [List.length_set]; exact hlen) hH (hL.set (v := .inl (w (v + n))) hi (w_rg _) h') hst RH
theorem aw_iinc {i : Nat} {n v : Int} (hd : decode md.2.1 pc = .ok (.iinc i n, 3)) (hl : ls[i]? = some (some (.inl v))) (hn : rg (v + n)) (kk : AW md d scr Q (pc + 3) (ls.set i (some (.inl (v + n)))) st h k) : AW md d scr Q pc ls st h k :=
  aw_iinc_w hd hl (by rw [w_id hn]; exact kk)
/-! numbers -/
def b2 (f : Int32 → Int32 → Int32) (x y : Int) : Int := (f (Int32.ofInt x) (Int32.ofInt y)).toInt
theorem b2_rg (f : Int32 → Int32 → Int32) (x y : Int) : rg (b2 f x y) := rg_of _
theorem b2_of (f : Int32 → Int32 → Int32) (x y : Int) : Int32.ofInt (b2 f x y) = f (Int32.ofInt x) (Int32.ofInt y) := Int32.ofInt_toInt _
def an (x y : Int) : Int := b2 (fun a b => a &&& b) x y
def orr (x y : Int) : Int := b2 (fun a b => a ||| b) x y
def xr (x y : Int) : Int := b2 (fun a b => a ^^^ b) x y
def sl (x y : Int) : Int := b2 (fun a b => a <<< (b &&& 31)) x y
def sr (x y : Int) : Int := b2 (fun a b => a >>> (b &&& 31)) x y
def dv (x y : Int) : Int := b2 (fun a b => a / b) x y
def rm (x y : Int) : Int := b2 (fun a b => a - a / b * b) x y
theorem aw_iadd_w {x y : Int} (hd : decode md.2.1 pc = .ok (.iadd, 1)) (kk : AW md d scr Q (pc + 1) ls (.inl (w (x + y)) :: st) h k) : AW md d scr Q pc ls (.inl y :: .inl x :: st) h k := by
  intro p l e R s m args below meth c b B D ca H locs lc Qw C hlen hH hL hst RH
  refine lv_iadd C.1 C.2.1 hd ?_
  have h1 := kk p l e R s m args below meth c b B D ca H locs lc Qw C hlen hH hL (ok_of (w_rg _) (ok_tl (ok_tl hst))) RH
  rw [← Int32.ofInt_add, ← w_of]
  exact h1
theorem aw_isub_w {x y : Int} (hd : decode md.2.1 pc = .ok (.isub, 1)) (kk : AW md d scr Q (pc + 1) ls (.inl (w (x - y)) :: st) h k) : AW md d scr Q pc ls (.inl y :: .inl x :: st) h k := by
  intro p l e R s m args below meth c b B D ca H locs lc Qw C hlen hH hL hst RH
  refine lv_isub C.1 C.2.1 hd ?_
  have h1 := kk p l e R s m args below meth c b B D ca H locs lc Qw C hlen hH hL (ok_of (w_rg _) (ok_tl (ok_tl hst))) RH
  rw [← Int32.ofInt_sub, ← w_of]
  exact h1
theorem aw_imul_w {x y : Int} (hd : decode md.2.1 pc = .ok (.imul, 1)) (kk : AW md d scr Q (pc + 1) ls (.inl (w (x * y)) :: st) h k) : AW md d scr Q pc ls (.inl y :: .inl x :: st) h k := by
  intro p l e R s m args below meth c b B D ca H locs lc Qw C hlen hH hL hst RH
  refine lv_imul C.1 C.2.1 hd ?_
  have h1 := kk p l e R s m args below meth c b B D ca H locs lc Qw C hlen hH hL (ok_of (w_rg _) (ok_tl (ok_tl hst))) RH
  rw [← Int32.ofInt_mul, ← w_of]
  exact h1
theorem aw_iadd {x y : Int} (hd : decode md.2.1 pc = .ok (.iadd, 1)) (hn : rg (x + y)) (kk : AW md d scr Q (pc + 1) ls (.inl (x + y) :: st) h k) : AW md d scr Q pc ls (.inl y :: .inl x :: st) h k := aw_iadd_w hd (by rw [w_id hn]; exact kk)
theorem aw_isub {x y : Int} (hd : decode md.2.1 pc = .ok (.isub, 1)) (hn : rg (x - y)) (kk : AW md d scr Q (pc + 1) ls (.inl (x - y) :: st) h k) : AW md d scr Q pc ls (.inl y :: .inl x :: st) h k := aw_isub_w hd (by rw [w_id hn]; exact kk)
theorem aw_imul {x y : Int} (hd : decode md.2.1 pc = .ok (.imul, 1)) (hn : rg (x * y)) (kk : AW md d scr Q (pc + 1) ls (.inl (x * y) :: st) h k) : AW md d scr Q pc ls (.inl y :: .inl x :: st) h k := aw_imul_w hd (by rw [w_id hn]; exact kk)
theorem aw_iand {x y : Int} (hd : decode md.2.1 pc = .ok (.iand, 1)) (kk : AW md d scr Q (pc + 1) ls (.inl (an x y) :: st) h k) : AW md d scr Q pc ls (.inl y :: .inl x :: st) h k := by
  intro p l e R s m args below meth c b B D ca H locs lc Qw C hlen hH hL hst RH
  refine lv_iand C.1 C.2.1 hd ?_
  have h1 := kk p l e R s m args below meth c b B D ca H locs lc Qw C hlen hH hL (ok_of (b2_rg _ _ _) (ok_tl (ok_tl hst))) RH
  rw [← b2_of (fun a b => a &&& b)]
  exact h1
theorem aw_ior {x y : Int} (hd : decode md.2.1 pc = .ok (.ior, 1)) (kk : AW md d scr Q (pc + 1) ls (.inl (orr x y) :: st) h k) : AW md d scr Q pc ls (.inl y :: .inl x :: st) h k := by
  intro p l e R s m args below meth c b B D ca H locs lc Qw C hlen hH hL hst RH
  refine lv_ior C.1 C.2.1 hd ?_
  have h1 := kk p l e R s m args below meth c b B D ca H locs lc Qw C hlen hH hL (ok_of (b2_rg _ _ _) (ok_tl (ok_tl hst))) RH
  rw [← b2_of (fun a b => a ||| b)]
  exact h1
theorem aw_ixor {x y : Int} (hd : decode md.2.1 pc = .ok (.ixor, 1)) (kk : AW md d scr Q (pc + 1) ls (.inl (xr x y) :: st) h k) : AW md d scr Q pc ls (.inl y :: .inl x :: st) h k := by
  intro p l e R s m args below meth c b B D ca H locs lc Qw C hlen hH hL hst RH
  refine lv_ixor C.1 C.2.1 hd ?_
  have h1 := kk p l e R s m args below meth c b B D ca H locs lc Qw C hlen hH hL (ok_of (b2_rg _ _ _) (ok_tl (ok_tl hst))) RH
  rw [← b2_of (fun a b => a ^^^ b)]
  exact h1
theorem aw_ishl {x y : Int} (hd : decode md.2.1 pc = .ok (.ishl, 1)) (kk : AW md d scr Q (pc + 1) ls (.inl (sl x y) :: st) h k) : AW md d scr Q pc ls (.inl y :: .inl x :: st) h k := by
  intro p l e R s m args below meth c b B D ca H locs lc Qw C hlen hH hL hst RH
  refine lv_ishl C.1 C.2.1 hd ?_
  have h1 := kk p l e R s m args below meth c b B D ca H locs lc Qw C hlen hH hL (ok_of (b2_rg _ _ _) (ok_tl (ok_tl hst))) RH
  rw [← b2_of (fun a b => a <<< (b &&& 31))]
  exact h1
theorem aw_ishr {x y : Int} (hd : decode md.2.1 pc = .ok (.ishr, 1)) (kk : AW md d scr Q (pc + 1) ls (.inl (sr x y) :: st) h k) : AW md d scr Q pc ls (.inl y :: .inl x :: st) h k := by
  intro p l e R s m args below meth c b B D ca H locs lc Qw C hlen hH hL hst RH
  refine lv_ishr C.1 C.2.1 hd ?_
  have h1 := kk p l e R s m args below meth c b B D ca H locs lc Qw C hlen hH hL (ok_of (b2_rg _ _ _) (ok_tl (ok_tl hst))) RH
  rw [← b2_of (fun a b => a >>> (b &&& 31))]
  exact h1
theorem ne0 {y : Int} (hy : rg y) (h : y ≠ 0) : ¬ Int32.ofInt y = 0 := by
  intro q
  apply h
  have := congrArg Int32.toInt q
  rw [ti hy] at this
  exact this
theorem aw_idiv {x y : Int} (hd : decode md.2.1 pc = .ok (.idiv, 1)) (hy : y ≠ 0) (kk : AW md d scr Q (pc + 1) ls (.inl (dv x y) :: st) h k) : AW md d scr Q pc ls (.inl y :: .inl x :: st) h k := by
  intro p l e R s m args below meth c b B D ca H locs lc Qw C hlen hH hL hst RH
  refine lv_idiv C.1 C.2.1 hd (ne0 (ok_hd hst) hy) ?_
  have h1 := kk p l e R s m args below meth c b B D ca H locs lc Qw C hlen hH hL (ok_of (b2_rg _ _ _) (ok_tl (ok_tl hst))) RH
  rw [← b2_of (fun a b => a / b)]
  exact h1
theorem aw_irem {x y : Int} (hd : decode md.2.1 pc = .ok (.irem, 1)) (hy : y ≠ 0) (kk : AW md d scr Q (pc + 1) ls (.inl (rm x y) :: st) h k) : AW md d scr Q pc ls (.inl y :: .inl x :: st) h k := by
  intro p l e R s m args below meth c b B D ca H locs lc Qw C hlen hH hL hst RH
  refine lv_irem C.1 C.2.1 hd (ne0 (ok_hd hst) hy) ?_
  have h1 := kk p l e R s m args below meth c b B D ca H locs lc Qw C hlen hH hL (ok_of (b2_rg _ _ _) (ok_tl (ok_tl hst))) RH
  rw [← b2_of (fun a b => a - a / b * b)]
  exact h1
theorem aw_i2c {x : Int} (hd : decode md.2.1 pc = .ok (.i2c, 1)) (kk : ∀ y, 0 ≤ y → y < 65536 → y = x % 65536 → AW md d scr Q (pc + 1) ls (.inl y :: st) h k) : AW md d scr Q pc ls (.inl x :: st) h k := by
  intro p l e R s m args below meth c b B D ca H locs lc Qw C hlen hH hL hst RH
  have hx : rg x := ok_hd hst
  refine lv_i2c (v := Int32.ofInt (x % 65536)) C.1 C.2.1 hd ?_ ?_
  · rw [pk_char]
    apply Int32.toInt_inj.mp
    rw [ti ⟨by omega, by omega⟩, nI_toInt (by omega)]
    have h2 : (Int32.ofInt x).toBitVec = BitVec.ofInt 32 x := rfl
    rw [h2, BitVec.toNat_ofInt]
    omega
  · exact kk (x % 65536) (by omega) (by omega) rfl p l e R s m args below meth c b B D ca H locs lc Qw C hlen hH hL (ok_of ⟨by omega, by omega⟩ (ok_tl hst)) RH
/-! the stack -/
theorem aw_dup {v : AV} (hd : decode md.2.1 pc = .ok (.dup, 1)) (kk : AW md d scr Q (pc + 1) ls (v :: v :: st) h k) : AW md d scr Q pc ls (v :: st) h k := by
  intro p l e R s m args below meth c b B D ca H locs lc Qw C hlen hH hL hst RH
  exact lv_dup C.1 C.2.1 hd (cv_cat v) (kk p l e R s m args below meth c b B D ca H locs lc Qw C hlen hH hL (ok_of (ok_hd hst) hst) RH)
theorem aw_pop {v : AV} (hd : decode md.2.1 pc = .ok (.pop, 1)) (kk : AW md d scr Q (pc + 1) ls st h k) : AW md d scr Q pc ls (v :: st) h k := by
  intro p l e R s m args below meth c b B D ca H locs lc Qw C hlen hH hL hst RH
  exact lv_pop C.1 C.2.1 hd (cv_cat v) (kk p l e R s m args below meth c b B D ca H locs lc Qw C hlen hH hL (ok_tl hst) RH)
theorem aw_dup2 {v u : AV} (hd : decode md.2.1 pc = .ok (.dup2, 1)) (kk : AW md d scr Q (pc + 1) ls (v :: u :: v :: u :: st) h k) : AW md d scr Q pc ls (v :: u :: st) h k := by
  intro p l e R s m args below meth c b B D ca H locs lc Qw C hlen hH hL hst RH
  exact lv_dup2_11 C.1 C.2.1 hd (cv_cat v) (cv_cat u) (kk p l e R s m args below meth c b B D ca H locs lc Qw C hlen hH hL (ok_of (ok_hd hst) (ok_of (ok_hd (ok_tl hst)) hst)) RH)
/-! branches -/
theorem i_lt {x y : Int} (hx : rg x) (hy : rg y) : Int32.ofInt x < Int32.ofInt y ↔ x < y := by rw [Int32.lt_iff_toInt_lt, ti hx, ti hy]
theorem i_le {x y : Int} (hx : rg x) (hy : rg y) : Int32.ofInt x ≤ Int32.ofInt y ↔ x ≤ y := by rw [Int32.le_iff_toInt_le, ti hx, ti hy]
theorem i_eq {x y : Int} (hx : rg x) (hy : rg y) : Int32.ofInt x = Int32.ofInt y ↔ x = y := ⟨fun q => by have := congrArg Int32.toInt q; rw [ti hx, ti hy] at this; exact this, fun q => by rw [q]⟩
theorem rg0 : rg 0 := by decide
theorem aw_goto {off : Int} {tgt : Nat} (hd : decode md.2.1 pc = .ok (.goto off, 3)) (ht : (pc : Int) + off = (tgt : Int)) (kk : AW md d scr Q tgt ls st h k) : AW md d scr Q pc ls st h k := by
  intro p l e R s m args below meth c b B D ca H locs lc Qw C hlen hH hL hst RH
  exact lv_goto C.1 C.2.1 hd ht (kk p l e R s m args below meth c b B D ca H locs lc Qw C hlen hH hL hst RH)
theorem aw_icmp_eq {x y off : Int} {tgt : Nat} (hd : decode md.2.1 pc = .ok (.if_icmp .eq off, 3)) (ht : (pc : Int) + off = (tgt : Int)) (kt : x = y → AW md d scr Q tgt ls st h k) (kf : ¬ (x = y) → AW md d scr Q (pc + 3) ls st h k) : AW md d scr Q pc ls (.inl y :: .inl x :: st) h k := by
  intro p l e R s m args below meth c b B D ca H locs lc Qw C hlen hH hL hst RH
  have hy : rg y := ok_hd hst
  have hx : rg x := ok_hd (ok_tl hst)
  have hi := i_eq hx hy
  have hst2 := ok_tl (ok_tl hst)
  by_cases hc : x = y
  · exact lv_icmp_eq C.1 C.2.1 hd ht (fun _ => kt hc p l e R s m args below meth c b B D ca H locs lc Qw C hlen hH hL hst2 RH) (fun q => absurd (hi.mpr hc) q)
  · exact lv_icmp_eq C.1 C.2.1 hd ht (fun q => absurd (hi.mp q) hc) (fun _ => kf hc p l e R s m args below meth c b B D ca H locs lc Qw C hlen hH hL hst2 RH)
theorem aw_if_eq {x off : Int} {tgt : Nat} (hd : decode md.2.1 pc = .ok (.ifCond .eq off, 3)) (ht : (pc : Int) + off = (tgt : Int)) (kt : x = 0 → AW md d scr Q tgt ls st h k) (kf : ¬ (x = 0) → AW md d scr Q (pc + 3) ls st h k) : AW md d scr Q pc ls (.inl x :: st) h k := by
  intro p l e R s m args below meth c b B D ca H locs lc Qw C hlen hH hL hst RH
  have hx : rg x := ok_hd hst
  have hi := i_eq hx rg0
  have hst2 := ok_tl hst
  by_cases hc : x = 0
  · exact lv_if_eq C.1 C.2.1 hd ht (fun _ => kt hc p l e R s m args below meth c b B D ca H locs lc Qw C hlen hH hL hst2 RH) (fun q => absurd (hi.mpr hc) q)
  · exact lv_if_eq C.1 C.2.1 hd ht (fun q => absurd (hi.mp q) hc) (fun _ => kf hc p l e R s m args below meth c b B D ca H locs lc Qw C hlen hH hL hst2 RH)
theorem aw_icmp_ne {x y off : Int} {tgt : Nat} (hd : decode md.2.1 pc = .ok (.if_icmp .ne off, 3)) (ht : (pc : Int) + off = (tgt : Int)) (kt : ¬ x = y → AW md d scr Q tgt ls st h k) (kf : ¬ (¬ x = y) → AW md d scr Q (pc + 3) ls st h k) : AW md d scr Q pc ls (.inl y :: .inl x :: st) h k := by
  intro p l e R s m args below meth c b B D ca H locs lc Qw C hlen hH hL hst RH
  have hy : rg y := ok_hd hst
  have hx : rg x := ok_hd (ok_tl hst)
  have hi := i_eq hx hy
  have hst2 := ok_tl (ok_tl hst)
  by_cases hc : ¬ x = y
  · exact lv_icmp_ne C.1 C.2.1 hd ht (fun _ => kt hc p l e R s m args below meth c b B D ca H locs lc Qw C hlen hH hL hst2 RH) (fun q => absurd (hi.mp q) hc)
  · exact lv_icmp_ne C.1 C.2.1 hd ht (fun q => absurd (fun z => q (hi.mpr z)) hc) (fun _ => kf hc p l e R s m args below meth c b B D ca H locs lc Qw C hlen hH hL hst2 RH)
theorem aw_if_ne {x off : Int} {tgt : Nat} (hd : decode md.2.1 pc = .ok (.ifCond .ne off, 3)) (ht : (pc : Int) + off = (tgt : Int)) (kt : ¬ x = 0 → AW md d scr Q tgt ls st h k) (kf : ¬ (¬ x = 0) → AW md d scr Q (pc + 3) ls st h k) : AW md d scr Q pc ls (.inl x :: st) h k := by
  intro p l e R s m args below meth c b B D ca H locs lc Qw C hlen hH hL hst RH
  have hx : rg x := ok_hd hst
  have hi := i_eq hx rg0
  have hst2 := ok_tl hst
  by_cases hc : ¬ x = 0
  · exact lv_if_ne C.1 C.2.1 hd ht (fun _ => kt hc p l e R s m args below meth c b B D ca H locs lc Qw C hlen hH hL hst2 RH) (fun q => absurd (hi.mp q) hc)
  · exact lv_if_ne C.1 C.2.1 hd ht (fun q => absurd (fun z => q (hi.mpr z)) hc) (fun _ => kf hc p l e R s m args below meth c b B D ca H locs lc Qw C hlen hH hL hst2 RH)
theorem aw_icmp_lt {x y off : Int} {tgt : Nat} (hd : decode md.2.1 pc = .ok (.if_icmp .lt off, 3)) (ht : (pc : Int) + off = (tgt : Int)) (kt : x < y → AW md d scr Q tgt ls st h k) (kf : ¬ (x < y) → AW md d scr Q (pc + 3) ls st h k) : AW md d scr Q pc ls (.inl y :: .inl x :: st) h k := by
  intro p l e R s m args below meth c b B D ca H locs lc Qw C hlen hH hL hst RH
  have hy : rg y := ok_hd hst
  have hx : rg x := ok_hd (ok_tl hst)
  have hi := i_lt hx hy
  have hst2 := ok_tl (ok_tl hst)
  by_cases hc : x < y
  · exact lv_icmp_lt C.1 C.2.1 hd ht (fun _ => kt hc p l e R s m args below meth c b B D ca H locs lc Qw C hlen hH hL hst2 RH) (fun q => absurd (hi.mpr hc) q)
  · exact lv_icmp_lt C.1 C.2.1 hd ht (fun q => absurd (hi.mp q) hc) (fun _ => kf hc p l e R s m args below meth c b B D ca H locs lc Qw C hlen hH hL hst2 RH)
theorem aw_if_lt {x off : Int} {tgt : Nat} (hd : decode md.2.1 pc = .ok (.ifCond .lt off, 3)) (ht : (pc : Int) + off = (tgt : Int)) (kt : x < 0 → AW md d scr Q tgt ls st h k) (kf : ¬ (x < 0) → AW md d scr Q (pc + 3) ls st h k) : AW md d scr Q pc ls (.inl x :: st) h k := by
  intro p l e R s m args below meth c b B D ca H locs lc Qw C hlen hH hL hst RH
  have hx : rg x := ok_hd hst
  have hi := i_lt hx rg0
  have hst2 := ok_tl hst
  by_cases hc : x < 0
  · exact lv_if_lt C.1 C.2.1 hd ht (fun _ => kt hc p l e R s m args below meth c b B D ca H locs lc Qw C hlen hH hL hst2 RH) (fun q => absurd (hi.mpr hc) q)
  · exact lv_if_lt C.1 C.2.1 hd ht (fun q => absurd (hi.mp q) hc) (fun _ => kf hc p l e R s m args below meth c b B D ca H locs lc Qw C hlen hH hL hst2 RH)
theorem aw_icmp_ge {x y off : Int} {tgt : Nat} (hd : decode md.2.1 pc = .ok (.if_icmp .ge off, 3)) (ht : (pc : Int) + off = (tgt : Int)) (kt : y ≤ x → AW md d scr Q tgt ls st h k) (kf : ¬ (y ≤ x) → AW md d scr Q (pc + 3) ls st h k) : AW md d scr Q pc ls (.inl y :: .inl x :: st) h k := by
  intro p l e R s m args below meth c b B D ca H locs lc Qw C hlen hH hL hst RH
  have hy : rg y := ok_hd hst
  have hx : rg x := ok_hd (ok_tl hst)
  have hi := i_le hy hx
  have hst2 := ok_tl (ok_tl hst)
  by_cases hc : y ≤ x
  · exact lv_icmp_ge C.1 C.2.1 hd ht (fun _ => kt hc p l e R s m args below meth c b B D ca H locs lc Qw C hlen hH hL hst2 RH) (fun q => absurd (hi.mpr hc) q)
  · exact lv_icmp_ge C.1 C.2.1 hd ht (fun q => absurd (hi.mp q) hc) (fun _ => kf hc p l e R s m args below meth c b B D ca H locs lc Qw C hlen hH hL hst2 RH)
theorem aw_if_ge {x off : Int} {tgt : Nat} (hd : decode md.2.1 pc = .ok (.ifCond .ge off, 3)) (ht : (pc : Int) + off = (tgt : Int)) (kt : 0 ≤ x → AW md d scr Q tgt ls st h k) (kf : ¬ (0 ≤ x) → AW md d scr Q (pc + 3) ls st h k) : AW md d scr Q pc ls (.inl x :: st) h k := by
  intro p l e R s m args below meth c b B D ca H locs lc Qw C hlen hH hL hst RH
  have hx : rg x := ok_hd hst
  have hi := i_le rg0 hx
  have hst2 := ok_tl hst
  by_cases hc : 0 ≤ x
  · exact lv_if_ge C.1 C.2.1 hd ht (fun _ => kt hc p l e R s m args below meth c b B D ca H locs lc Qw C hlen hH hL hst2 RH) (fun q => absurd (hi.mpr hc) q)
  · exact lv_if_ge C.1 C.2.1 hd ht (fun q => absurd (hi.mp q) hc) (fun _ => kf hc p l e R s m args below meth c b B D ca H locs lc Qw C hlen hH hL hst2 RH)
theorem aw_icmp_gt {x y off : Int} {tgt : Nat} (hd : decode md.2.1 pc = .ok (.if_icmp .gt off, 3)) (ht : (pc : Int) + off = (tgt : Int)) (kt : y < x → AW md d scr Q tgt ls st h k) (kf : ¬ (y < x) → AW md d scr Q (pc + 3) ls st h k) : AW md d scr Q pc ls (.inl y :: .inl x :: st) h k := by
  intro p l e R s m args below meth c b B D ca H locs lc Qw C hlen hH hL hst RH
  have hy : rg y := ok_hd hst
  have hx : rg x := ok_hd (ok_tl hst)
  have hi := i_lt hy hx
  have hst2 := ok_tl (ok_tl hst)
  by_cases hc : y < x
  · exact lv_icmp_gt C.1 C.2.1 hd ht (fun _ => kt hc p l e R s m args below meth c b B D ca H locs lc Qw C hlen hH hL hst2 RH) (fun q => absurd (hi.mpr hc) q)
  · exact lv_icmp_gt C.1 C.2.1 hd ht (fun q => absurd (hi.mp q) hc) (fun _ => kf hc p l e R s m args below meth c b B D ca H locs lc Qw C hlen hH hL hst2 RH)
theorem aw_if_gt {x off : Int} {tgt : Nat} (hd : decode md.2.1 pc = .ok (.ifCond .gt off, 3)) (ht : (pc : Int) + off = (tgt : Int)) (kt : 0 < x → AW md d scr Q tgt ls st h k) (kf : ¬ (0 < x) → AW md d scr Q (pc + 3) ls st h k) : AW md d scr Q pc ls (.inl x :: st) h k := by
  intro p l e R s m args below meth c b B D ca H locs lc Qw C hlen hH hL hst RH
  have hx : rg x := ok_hd hst
  have hi := i_lt rg0 hx
  have hst2 := ok_tl hst
  by_cases hc : 0 < x
  · exact lv_if_gt C.1 C.2.1 hd ht (fun _ => kt hc p l e R s m args below meth c b B D ca H locs lc Qw C hlen hH hL hst2 RH) (fun q => absurd (hi.mpr hc) q)
  · exact lv_if_gt C.1 C.2.1 hd ht (fun q => absurd (hi.mp q) hc) (fun _ => kf hc p l e R s m args below meth c b B D ca H locs lc Qw C hlen hH hL hst2 RH)
theorem aw_icmp_le {x y off : Int} {tgt : Nat} (hd : decode md.2.1 pc = .ok (.if_icmp .le off, 3)) (ht : (pc : Int) + off = (tgt : Int)) (kt : x ≤ y → AW md d scr Q tgt ls st h k) (kf : ¬ (x ≤ y) → AW md d scr Q (pc + 3) ls st h k) : AW md d scr Q pc ls (.inl y :: .inl x :: st) h k := by
  intro p l e R s m args below meth c b B D ca H locs lc Qw C hlen hH hL hst RH
  have hy : rg y := ok_hd hst
  have hx : rg x := ok_hd (ok_tl hst)
  have hi := i_le hx hy
  have hst2 := ok_tl (ok_tl hst)
  by_cases hc : x ≤ y
  · exact lv_icmp_le C.1 C.2.1 hd ht (fun _ => kt hc p l e R s m args below meth c b B D ca H locs lc Qw C hlen hH hL hst2 RH) (fun q => absurd (hi.mpr hc) q)
  · exact lv_icmp_le C.1 C.2.1 hd ht (fun q => absurd (hi.mp q) hc) (fun _ => kf hc p l e R s m args below meth c b B D ca H locs lc Qw C hlen hH hL hst2 RH)
theorem aw_if_le {x off : Int} {tgt : Nat} (hd : decode md.2.1 pc = .ok (.ifCond .le off, 3)) (ht : (pc : Int) + off = (tgt : Int)) (kt : x ≤ 0 → AW md d scr Q tgt ls st h k) (kf : ¬ (x ≤ 0) → AW md d scr Q (pc + 3) ls st h k) : AW md d scr Q pc ls (.inl x :: st) h k := by
  intro p l e R s m args below meth c b B D ca H locs lc Qw C hlen hH hL hst RH
  have hx : rg x := ok_hd hst
  have hi := i_le hx rg0
  have hst2 := ok_tl hst
  by_cases hc : x ≤ 0
  · exact lv_if_le C.1 C.2.1 hd ht (fun _ => kt hc p l e R s m args below meth c b B D ca H locs lc Qw C hlen hH hL hst2 RH) (fun q => absurd (hi.mpr hc) q)
  · exact lv_if_le C.1 C.2.1 hd ht (fun q => absurd (hi.mp q) hc) (fun _ => kf hc p l e R s m args below meth c b B D ca H locs lc Qw C hlen hH hL hst2 RH)
theorem aw_ifnull {r : Option Nat} {off : Int} {tgt : Nat} (hd : decode md.2.1 pc = .ok (.ifnull off, 3)) (ht : (pc : Int) + off = (tgt : Int)) (kt : r = none → AW md d scr Q tgt ls st h k) (kf : r ≠ none → AW md d scr Q (pc + 3) ls st h k) : AW md d scr Q pc ls (.inr r :: st) h k := by
  intro p l e R s m args below meth c b B D ca H locs lc Qw C hlen hH hL hst RH
  cases r with
  | none => exact lv_ifnullN C.1 C.2.1 hd ht (kt rfl p l e R s m args below meth c b B D ca H locs lc Qw C hlen hH hL (ok_tl hst) RH)
  | some j => exact lv_ifnull C.1 C.2.1 hd (kf (fun q => by cases q) p l e R s m args below meth c b B D ca H locs lc Qw C hlen hH hL (ok_tl hst) RH)
theorem aw_ifnonnull {r : Option Nat} {off : Int} {tgt : Nat} (hd : decode md.2.1 pc = .ok (.ifnonnull off, 3)) (ht : (pc : Int) + off = (tgt : Int)) (kt : r ≠ none → AW md d scr Q tgt ls st h k) (kf : r = none → AW md d scr Q (pc + 3) ls st h k) : AW md d scr Q pc ls (.inr r :: st) h k := by
  intro p l e R s m args below meth c b B D ca H locs lc Qw C hlen hH hL hst RH
  cases r with
  | none => exact lv_ifnonnullN C.1 C.2.1 hd (kf rfl p l e R s m args below meth c b B D ca H locs lc Qw C hlen hH hL (ok_tl hst) RH)
  | some j => exact lv_ifnonnull C.1 C.2.1 hd ht (kt (fun q => by cases q) p l e R s m args below meth c b B D ca H locs lc Qw C hlen hH hL (ok_tl hst) RH)
theorem aw_tblOut {dflt lo hi x : Int} {offs : Array Int} {len tgt : Nat} (hd : decode md.2.1 pc = .ok (.tableswitch dflt lo hi offs, len)) (hx : x < lo ∨ hi < x) (ht : (pc : Int) + dflt = (tgt : Int)) (kk : AW md d scr Q tgt ls st h k) : AW md d scr Q pc ls (.inl x :: st) h k := by
  intro p l e R s m args below meth c b B D ca H locs lc Qw C hlen hH hL hst RH
  exact lv_tableOut C.1 C.2.1 hd (by rw [ti (ok_hd hst)]; exact hx) ht (kk p l e R s m args below meth c b B D ca H locs lc Qw C hlen hH hL (ok_tl hst) RH)
theorem aw_tblIn {dflt lo hi x off : Int} {offs : Array Int} {len tgt : Nat} (hd : decode md.2.1 pc = .ok (.tableswitch dflt lo hi offs, len)) (h1 : lo ≤ x) (h2 : x ≤ hi) (ho : offs[(x - lo).toNat]? = some off) (ht : (pc : Int) + off = (tgt : Int)) (kk : AW md d scr Q tgt ls st h k) : AW md d scr Q pc ls (.inl x :: st) h k := by
  intro p l e R s m args below meth c b B D ca H locs lc Qw C hlen hH hL hst RH
  have hx : (Int32.ofInt x).toInt = x := ti (ok_hd hst)
  exact lv_tableIn C.1 C.2.1 hd (by rw [hx]; omega) (by rw [hx]; omega) (by rw [hx]; exact ho) ht (kk p l e R s m args below meth c b B D ca H locs lc Qw C hlen hH hL (ok_tl hst) RH)
theorem aw_lookup {dflt x off : Int} {ps : Array (Int × Int)} {len tgt : Nat} (hd : decode md.2.1 pc = .ok (.lookupswitch dflt ps, len)) (hp : (ps.toList.zip (ps.toList.drop 1)).all (fun (a, next) => a.1 < next.1) = true) (ho : Op.lookupswitch.offset ps.toList dflt x = off) (ht : (pc : Int) + off = (tgt : Int)) (kk : AW md d scr Q tgt ls st h k) : AW md d scr Q pc ls (.inl x :: st) h k := by
  intro p l e R s m args below meth c b B D ca H locs lc Qw C hlen hH hL hst RH
  have hx : (Int32.ofInt x).toInt = x := ti (ok_hd hst)
  exact lv_lookup C.1 C.2.1 hd hp (by rw [hx]; exact ho) ht (kk p l e R s m args below meth c b B D ca H locs lc Qw C hlen hH hL (ok_tl hst) RH)
theorem aw_okH (kk : okH h → AW md d scr Q pc ls st h k) : AW md d scr Q pc ls st h k := by
  intro p l e R s m args below meth c b B D ca H locs lc Qw C hlen hH hL hst RH
  exact kk hH.1.2.2 p l e R s m args below meth c b B D ca H locs lc Qw C hlen hH hL hst RH
theorem aw_okl (kk : (∀ (i : Nat) (v : AV), ls[i]? = some (some v) → ok v) → AW md d scr Q pc ls st h k) : AW md d scr Q pc ls st h k := by
  intro p l e R s m args below meth c b B D ca H locs lc Qw C hlen hH hL hst RH
  exact kk hL.2 p l e R s m args below meth c b B D ca H locs lc Qw C hlen hH hL hst RH
end RU
end
section
section HE
variable {md : MD} {d : Nat} {scr : Option (Nat × (Nat → Int))} {Q : Option Int → AH → Prop} {pc : Nat} {ls : List (Option AV)} {st : List AV} {h : AH} {k : Nat × Nat}
theorem okH_pos {h : AH} (ho : okH h) {j : Nat} {x : Nat × Nat} (hx : hk h j = x) (hn : x ≠ (9, 0)) : ∃ i, j = i + 1 ∧ i < h.1 := by
  cases j with
  | zero => exact absurd (hx.symm.trans ho.2.1) hn
  | succ i =>
    refine ⟨i, rfl, ?_⟩
    rcases Nat.lt_or_ge h.1 (i + 1) with q | q
    · exact absurd (hx.symm.trans (ho.2.2.1 _ q)) hn
    · omega
theorem enc_o {b B : Nat} {ca : Nat → ClassId} {h : AH} {j ci : Nat} (hx : hk h j = (0, ci)) : enc b B ca h j = .inr (ci, (List.range (cN ci)).map (fvl b B h j ci)) := by simp [enc, hx]
theorem enc_1 {b B : Nat} {ca : Nat → ClassId} {h : AH} {j n : Nat} (hx : hk h j = (1, n)) : enc b B ca h j = .inl (ca 1, n, .inl fun k => Int32.ofInt (hi h j k)) := by simp [enc, hx]
theorem enc_2 {b B : Nat} {ca : Nat → ClassId} {h : AH} {j n : Nat} (hx : hk h j = (2, n)) : enc b B ca h j = .inl (ca 2, n, .inl fun k => Int32.ofInt (hi h j k)) := by simp [enc, hx]
theorem enc_3 {b B : Nat} {ca : Nat → ClassId} {h : AH} {j n : Nat} (hx : hk h j = (3, n)) : enc b B ca h j = .inl (ca 3, n, .inl fun k => Int32.ofInt (hi h j k)) := by simp [enc, hx]
theorem enc_4 {b B : Nat} {ca : Nat → ClassId} {h : AH} {j n : Nat} (hx : hk h j = (4, n)) : enc b B ca h j = .inl (ca 4, n, .inr (.inr (.inr (.inr fun k => (hr h j k).map (az b B))))) := by simp [enc, hx]
theorem fs_at {n k : Nat} {f : Nat → Value} (hk : k < n) : ((List.range n).map f)[k]? = some (f k) := by simp [hk]
theorem aw_getv {idx ci kf j : Nat} (hd : decode md.2.1 pc = .ok (.getfield idx, 3)) (hl : Cond.fieldLink md.1.cls idx (cU ci kf).1 (cU ci kf).2.1 (cU ci kf).2.2.1 ∈ tbG) (hkf : kf < cN ci) (hx : hk h j = (0, ci)) {v : AV} (hv : ∀ b B, fvl b B h j ci kf = cv b B v) (hok : okH h → ok v)
    (kk : AW md d scr Q (pc + 3) ls (v :: st) h k) : AW md d scr Q pc ls (.inr (some j) :: st) h k := by
  intro p l e R s m args below meth c b B D ca H locs lc Qw C hlen hH hL hst RH
  obtain ⟨hsz, hP, ho⟩ := hH.1
  obtain ⟨i, rfl, hj⟩ := okH_pos ho hx (by intro q; cases q)
  have hci := ho.2.2.2 _ _ hx
  have he := wso_at (b := b) (B := B) (ca := ca) hj
  rw [enc_o hx] at he
  refine va_get (D := D) (v := cv b B v) C.1 C.2.1 C.2.2.2.2.1 (cl_words hci) C.2.2.2.1 C.2.2.2.2.2.2.1 hP i he (cl_at hci) kf hkf (C.2.2.2.2.1 _ hl) (fun _ h9 => h9) ?_ hd ?_
  · rw [fs_at hkf, hv]
  · exact kk p l e R s m args below meth c b B D ca H locs lc Qw C hlen hH hL (ok_of (hok ho) (ok_tl hst)) RH
theorem aw_geti {idx ci kf j : Nat} (hd : decode md.2.1 pc = .ok (.getfield idx, 3)) (hl : Cond.fieldLink md.1.cls idx (cU ci kf).1 (cU ci kf).2.1 (cU ci kf).2.2.1 ∈ tbG) (hkf : kf < cN ci) (hT : isR (cT ci kf) = false) (hx : hk h j = (0, ci))
    (kk : AW md d scr Q (pc + 3) ls (.inl (hi h j kf) :: st) h k) : AW md d scr Q pc ls (.inr (some j) :: st) h k :=
  aw_getv (v := .inl (hi h j kf)) hd hl hkf hx (fun b B => by simp [fvl, hT, cv]) (fun ho => ho.1 j kf) kk
theorem aw_getr {idx ci kf j : Nat} (hd : decode md.2.1 pc = .ok (.getfield idx, 3)) (hl : Cond.fieldLink md.1.cls idx (cU ci kf).1 (cU ci kf).2.1 (cU ci kf).2.2.1 ∈ tbG) (hkf : kf < cN ci) (hT : isR (cT ci kf) = true) (hx : hk h j = (0, ci)) {r : Option Nat} (hr0 : hr h j kf = r)
    (kk : AW md d scr Q (pc + 3) ls (.inr r :: st) h k) : AW md d scr Q pc ls (.inr (some j) :: st) h k :=
  aw_getv (v := .inr r) hd hl hkf hx (fun b B => by simp [fvl, hT, cv, hr0]) (fun _ => trivial) kk
theorem okH_up {h : AH} {j : Nat} {x v : Int} (ho : okH h) (hv : rg v) : okH (up h j x v) := by
  refine ⟨fun a b => ?_, ho.2.1, ho.2.2.1, ho.2.2.2⟩
  rw [hi_up]
  split
  · exact hv
  · exact ho.1 a b
theorem okH_ur {h : AH} {j : Nat} {x : Int} {v : Option Nat} (ho : okH h) : okH (ur h j x v) := ⟨ho.1, ho.2.1, ho.2.2.1, ho.2.2.2⟩
theorem enc_up {b B : Nat} {ca : Nat → ClassId} {h : AH} {j : Nat} {x v : Int} : ∀ i, i ≠ j → enc b B ca (up h j x v) i = enc b B ca h i := by
  intro i hi'
  refine enc_cong rfl (fun _ => rfl) (fun k => ?_)
  rw [hi_up, if_neg (fun q => hi' q.1)]
theorem enc_ur {b B : Nat} {ca : Nat → ClassId} {h : AH} {j : Nat} {x : Int} {v : Option Nat} : ∀ i, i ≠ j → enc b B ca (ur h j x v) i = enc b B ca h i := by
  intro i hi'
  refine enc_cong rfl (fun k => ?_) (fun _ => rfl)
  rw [hr_ur, if_neg (fun q => hi' q.1)]
theorem fs_set {n k : Nat} {f g : Nat → Value} (hk : k < n) (hg : ∀ i, i ≠ k → g i = f i) : ((List.range n).map f).set k (g k) = (List.range n).map g := by
  apply List.ext_getElem?
  intro i
  by_cases hik : i = k
  · subst hik
    rw [List.getElem?_set_self (by simpa using hk), fs_at hk]
  · rw [List.getElem?_set_ne (Ne.symm hik)]
    by_cases hi : i < n
    · rw [fs_at hi, fs_at hi, hg i hik]
    · rw [List.getElem?_eq_none (by simp; omega), List.getElem?_eq_none (by simp; omega)]
/-- a field is written: h' is h with another value at (j, kf) -/
theorem aw_putv {idx ci kf j : Nat} {v : AV} {h' : AH} (hd : decode md.2.1 pc = .ok (.putfield idx, 3)) (hl : Cond.fieldLink md.1.cls idx (cU ci kf).1 (cU ci kf).2.1 (cU ci kf).2.2.1 ∈ tbG) (hkf : kf < cN ci) (hx : hk h j = (0, ci))
    (hfin : (cU ci kf).2.2.2 = false ∨ ((cU ci kf).2.2.2 = true ∧ md.1.name = "<init>" ∧ (cU ci kf).1 = md.1.cls)) (hnar : ∀ b B, narrow (cT ci kf) (cv b B v) = cv b B v) (hfit : ∀ b B, fits (cT ci kf) (cv b B v) = true)
    (hn' : h'.1 = h.1) (hk' : hk h' = hk h) (ho' : okH h → okH h') (he' : ∀ b B ca i, i ≠ j → enc b B ca h' i = enc b B ca h i) (hv : ∀ b B, fvl b B h' j ci kf = cv b B v) (hv' : ∀ b B i, i ≠ kf → fvl b B h' j ci i = fvl b B h j ci i)
    (kk : AW md d scr Q (pc + 3) ls st h' k) : AW md d scr Q pc ls (v :: .inr (some j) :: st) h k := by
  intro p l e R s m args below meth c b B D ca H locs lc Qw C hlen hH hL hst RH
  obtain ⟨⟨hsz, hP, ho⟩, hS⟩ := hH
  obtain ⟨i, rfl, hj⟩ := okH_pos ho hx (by intro q; cases q)
  have hci := ho.2.2.2 _ _ hx
  have he := wso_at (b := b) (B := B) (ca := ca) hj
  rw [enc_o hx] at he
  have hl' : kf < ((List.range (cN ci)).map (fvl b B h (i + 1) ci)).length := by simpa using hkf
  have key : ∀ (H1 : Heap) (locs1 : List Loc), va_P D vwCl ((wso b B ca h).set i (B + i, .inr (ci, ((List.range (cN ci)).map (fvl b B h (i + 1) ci)).set kf (cv b B v)))) H1 → va_D (fun q => B ≤ q) ((wso b B ca h).set i (B + i, .inr (ci, ((List.range (cN ci)).map (fvl b B h (i + 1) ci)).set kf (cv b B v)))) → va_S (fun q => B ≤ q) s.heap H1 locs1 → H1.size = H.size → W p l e R s m args below meth c H1 locs1 k.1 k.2 Qw (F0 m (pc + 3) lc (st.map (cv b B))) := by
    intro H1 locs1 h1 _ h3 h4
    have e1 : enc b B ca h' (i + 1) = .inr (ci, ((List.range (cN ci)).map (fvl b B h (i + 1) ci)).set kf (cv b B v)) := by
      rw [enc_o (by rw [hk']; exact hx), ← hv b B, fs_set hkf (hv' b B)]
    rw [← e1, wso_set hj hn' (he' b B ca)] at h1
    exact kk p l e R s m args below meth c b B D ca H1 locs1 lc Qw C hlen ⟨⟨by rw [h4, hn']; exact hsz, h1, ho' ho⟩, h3⟩ hL (ok_tl (ok_tl hst)) RH
  have hsize : ∀ (H1 : Heap) (X : va_W), va_P D vwCl X H1 → True := fun _ _ _ => trivial
  obtain ⟨r, h1, cell, q1, q2, q3, q4⟩ := hP i _ he
  have hr : r = (cR ci, cU ci, cN ci) := Option.some.inj (h1.symm.trans (cl_at hci))
  subst hr
  have hK := C.2.2.2.2.2.2.1
  have hts := C.2.2.2.2.1
  have hap := va_apart (own := md.1.cls) hts (cl_words hci) (cT ci) (cl_ty hci) (cl_nm hci) hK (cl_at hci)
  obtain ⟨hSl, hfc, kC, hkC, hkind⟩ := hK.1 ci _ (cl_at hci)
  obtain ⟨cf, kx, fi, f, hfi, hsl⟩ := hSl kf hkf
  have hlay := hts _ (cl_words hci _ (u_in_lay hkf))
  unfold u_lay at hlay
  have hst' := (u_facts hfc hkC (u_lays hts (cl_words hci) hkf) hfi).1
  rcases hfin with hfin | ⟨hfin, hin2, hdecl⟩
  · rw [if_neg (by rw [hfin]; decide)] at hlay
    have h6 := u_store hfc hkC hkind hlay hfi (cl_ty hci kf hkf) (hnar b B) (hfit b B)
    refine W.putK C.1 C.2.1 (f := f) ⟨C.2.2.2.1, hts _ hl, ⟨_, _, _, hfi⟩, hst'⟩ (by rw [q2]; exact h6) q1 q3 (by rw [hsl]; exact k2_hasslot (q4 kf hkf)) rfl rfl hd fun H' e1 e2 e3 => ?_
    rw [hsl] at e1 ⊢
    exact key H' _ (hP.set wso_D he ⟨_, cl_at hci, t_OB.to (V := updV (vp_V _) kf _) ⟨_, e1, q2, q3, t_set q4 hap hkf _⟩ (fun j _ => vp_updV_set hl' _ j)⟩ e3) (wso_D.set he) (hS.put e2 e3 (wso_D.2 i _ he)) e2
  · rw [if_pos hfin] at hlay
    have hcf : m.cls = cf := by
      obtain ⟨_, _, c', _, _, _, -, -, hf', -, -, -, hown2, -⟩ := Cond.laysFinal_spec hlay
      have e1 : c' = cf := by have := hfi.symm.trans hf'; simp at this; exact this.1.symm
      rw [hdecl] at hown2
      rw [← e1]; exact Option.some.inj (C.2.2.2.1.symm.trans hown2)
    have h6 := u_fits hfc hkC hkind (Or.inr hlay) hfi (cl_ty hci kf hkf) (hnar b B) (hfit b B)
    refine W.putFinK C.1 C.2.1 C.2.2.2.1 (hts _ hl) hfi hst' hcf (C.2.2.2.2.2.1.trans hin2) (by rw [q2]; exact h6) q1 q3 (by rw [hsl]; exact k2_hasslot (q4 kf hkf)) rfl rfl hd fun H' e1 e2 e3 => ?_
    rw [hsl] at e1 ⊢
    exact key H' _ (hP.set wso_D he ⟨_, cl_at hci, t_OB.to (V := updV (vp_V _) kf _) ⟨_, e1, q2, q3, t_set q4 hap hkf _⟩ (fun j _ => vp_updV_set hl' _ j)⟩ e3) (wso_D.set he) (hS.put e2 e3 (wso_D.2 i _ he)) e2
theorem fvl_up {b B : Nat} {h : AH} {j ci kf : Nat} {v : Int} : ∀ i, i ≠ kf → fvl b B (up h j kf v) j ci i = fvl b B h j ci i := by
  intro i hi'
  have hne : ¬ ((i : Int) = (kf : Int)) := fun q => hi' (by omega)
  simp [fvl, hr_up, hi_up, hne, hi']
theorem fvl_ur {b B : Nat} {h : AH} {j ci kf : Nat} {v : Option Nat} : ∀ i, i ≠ kf → fvl b B (ur h j kf v) j ci i = fvl b B h j ci i := by
  intro i hi'
  have hne : ¬ ((i : Int) = (kf : Int)) := fun q => hi' (by omega)
  simp [fvl, hi_ur, hr_ur, hne, hi']
theorem nar_i {t : FieldType} {v : Int} (hv : okr (some t) v) (b B : Nat) : narrow t (cv b B (.inl v)) = cv b B (.inl v) ∧ fits t (cv b B (.inl v)) = true := by
  cases t with
  | int => exact ⟨rfl, rfl⟩
  | boolean =>
    rcases hv with rfl | rfl
    · exact ⟨rfl, rfl⟩
    · exact ⟨rfl, rfl⟩
  | char =>
    obtain ⟨n, rfl⟩ : ∃ n : Nat, v = (n : Int) := ⟨v.toNat, by have := hv.1; omega⟩
    have h2 := hv.2
    exact pk_charN (by omega)
  | _ => exact absurd hv (by simp [okr])
theorem okr_rg {t : Option FieldType} {v : Int} (hv : okr t v) : rg v := by
  match t, hv with
  | some .int, hv => exact hv
  | some .boolean, hv => rcases hv with rfl | rfl <;> decide
  | some .char, hv => exact ⟨by have := hv.1; omega, by have := hv.2; omega⟩
theorem aw_puti {idx ci kf j : Nat} {v : Int} (hd : decode md.2.1 pc = .ok (.putfield idx, 3)) (hl : Cond.fieldLink md.1.cls idx (cU ci kf).1 (cU ci kf).2.1 (cU ci kf).2.2.1 ∈ tbG) (hkf : kf < cN ci) (hT : isR (cT ci kf) = false) (hfin : (cU ci kf).2.2.2 = false) (hx : hk h j = (0, ci)) (hv : okr (some (cT ci kf)) v)
    (kk : AW md d scr Q (pc + 3) ls st (up h j kf v) k) : AW md d scr Q pc ls (.inl v :: .inr (some j) :: st) h k :=
  aw_putv (v := .inl v) (h' := up h j kf v) hd hl hkf hx (Or.inl hfin) (fun b B => (nar_i hv b B).1) (fun b B => (nar_i hv b B).2) rfl rfl (fun ho => okH_up ho (okr_rg hv)) (fun b B ca => enc_up)
    (fun b B => by simp [fvl, hT, hi_up, cv]) (fun b B => fvl_up) kk
theorem aw_putrF {idx ci kf j : Nat} {r : Nat} (hd : decode md.2.1 pc = .ok (.putfield idx, 3)) (hl : Cond.fieldLink md.1.cls idx (cU ci kf).1 (cU ci kf).2.1 (cU ci kf).2.2.1 ∈ tbG) (hkf : kf < cN ci) (hT : isR (cT ci kf) = true) (hfin : (cU ci kf).2.2.2 = true ∧ md.1.name = "<init>" ∧ (cU ci kf).1 = md.1.cls) (hx : hk h j = (0, ci))
    (kk : AW md d scr Q (pc + 3) ls st (ur h j kf (some r)) k) : AW md d scr Q pc ls (.inr (some r) :: .inr (some j) :: st) h k := by
  refine aw_putv (v := .inr (some r)) (h' := ur h j kf (some r)) hd hl hkf hx (Or.inr hfin) (fun b B => ?_) (fun b B => ?_) rfl rfl (fun ho => okH_ur ho) (fun b B ca => enc_ur) (fun b B => by simp [fvl, hT, hr_ur, cv]) (fun b B => fvl_ur) kk
  · generalize cT ci kf = t at hT
    cases t <;> simp_all [isR] <;> rfl
  · generalize cT ci kf = t at hT
    cases t <;> simp_all [isR] <;> rfl
end HE
end
section
section AR
variable {md : MD} {d : Nat} {scr : Option (Nat × (Nat → Int))} {Q : Option Int → AH → Prop} {pc : Nat} {ls : List (Option AV)} {st : List AV} {h : AH} {k : Nat × Nat}
theorem cl_nat {x : Int} (hx : rg x) (h0 : 0 ≤ x) : (Int32.ofInt x).toNatClampNeg = x.toNat := by
  show (Int32.ofInt x).toInt.toNat = x.toNat
  rw [ti hx]
theorem in_of {x : Int} {n : Nat} (hx : rg x) (h0 : 0 ≤ x) (h1 : x < n) : vp_in (Int32.ofInt x) n := by
  unfold vp_in
  rw [cl_nat hx h0]
  intro q
  rcases q with q | q
  · have := (i_lt hx rg0).mp q
    omega
  · omega
theorem to_nat {x : Int} (h0 : 0 ≤ x) : ((x.toNat : Nat) : Int) = x := Int.toNat_of_nonneg h0
theorem aw_iaload {j n : Nat} {x : Int} (hd : decode md.2.1 pc = .ok (.iaload, 1)) (hx : hk h j = (1, n)) (h0 : 0 ≤ x) (h1 : x < n) (kk : AW md d scr Q (pc + 1) ls (.inl (hi h j x) :: st) h k) : AW md d scr Q pc ls (.inl x :: .inr (some j) :: st) h k := by
  intro p l e R s m args below meth c b B D ca H locs lc Qw C hlen hH hL hst RH
  obtain ⟨hsz, hP, ho⟩ := hH.1
  obtain ⟨i, rfl, hj⟩ := okH_pos ho hx (by intro q; cases q)
  have hxr : rg x := ok_hd hst
  have he := wso_at (b := b) (B := B) (ca := ca) hj
  rw [enc_1 hx] at he
  refine va_iald C.1 C.2.1 C.2.2.2.2.2.2.1 hP i 0 he rfl (in_of hxr h0 h1) hd ?_
  rw [cl_nat hxr h0]
  show W p l e R s m args below meth c H locs k.1 k.2 Qw (F0 m (pc + 1) lc (.int (Int32.ofInt (hi h (i + 1) ((x.toNat : Nat) : Int))) :: st.map (cv b B)))
  rw [to_nat h0]
  exact kk p l e R s m args below meth c b B D ca H locs lc Qw C hlen hH hL (ok_of (ho.1 _ _) (ok_tl (ok_tl hst))) RH
theorem aw_baload {j n : Nat} {x : Int} (hd : decode md.2.1 pc = .ok (.baload, 1)) (hx : hk h j = (2, n)) (h0 : 0 ≤ x) (h1 : x < n) (kk : AW md d scr Q (pc + 1) ls (.inl (hi h j x) :: st) h k) : AW md d scr Q pc ls (.inl x :: .inr (some j) :: st) h k := by
  intro p l e R s m args below meth c b B D ca H locs lc Qw C hlen hH hL hst RH
  obtain ⟨hsz, hP, ho⟩ := hH.1
  obtain ⟨i, rfl, hj⟩ := okH_pos ho hx (by intro q; cases q)
  have hxr : rg x := ok_hd hst
  have he := wso_at (b := b) (B := B) (ca := ca) hj
  rw [enc_2 hx] at he
  refine va_zald C.1 C.2.1 C.2.2.2.2.2.2.1 hP i 1 he rfl (in_of hxr h0 h1) hd ?_
  rw [cl_nat hxr h0]
  show W p l e R s m args below meth c H locs k.1 k.2 Qw (F0 m (pc + 1) lc (.int (Int32.ofInt (hi h (i + 1) ((x.toNat : Nat) : Int))) :: st.map (cv b B)))
  rw [to_nat h0]
  exact kk p l e R s m args below meth c b B D ca H locs lc Qw C hlen hH hL (ok_of (ho.1 _ _) (ok_tl (ok_tl hst))) RH
theorem aw_caload {j n : Nat} {x : Int} (hd : decode md.2.1 pc = .ok (.caload, 1)) (hx : hk h j = (3, n)) (h0 : 0 ≤ x) (h1 : x < n) (kk : AW md d scr Q (pc + 1) ls (.inl (hi h j x) :: st) h k) : AW md d scr Q pc ls (.inl x :: .inr (some j) :: st) h k := by
  intro p l e R s m args below meth c b B D ca H locs lc Qw C hlen hH hL hst RH
  obtain ⟨hsz, hP, ho⟩ := hH.1
  obtain ⟨i, rfl, hj⟩ := okH_pos ho hx (by intro q; cases q)
  have hxr : rg x := ok_hd hst
  have he := wso_at (b := b) (B := B) (ca := ca) hj
  rw [enc_3 hx] at he
  refine va_cald C.1 C.2.1 C.2.2.2.2.2.2.1 hP i 2 he rfl (in_of hxr h0 h1) hd ?_
  rw [cl_nat hxr h0]
  show W p l e R s m args below meth c H locs k.1 k.2 Qw (F0 m (pc + 1) lc (.int (Int32.ofInt (hi h (i + 1) ((x.toNat : Nat) : Int))) :: st.map (cv b B)))
  rw [to_nat h0]
  exact kk p l e R s m args below meth c b B D ca H locs lc Qw C hlen hH hL (ok_of (ho.1 _ _) (ok_tl (ok_tl hst))) RH
theorem aw_aaload {j n : Nat} {x : Int} (hd : decode md.2.1 pc = .ok (.aaload, 1)) (hx : hk h j = (4, n)) (h0 : 0 ≤ x) (h1 : x < n) (kk : AW md d scr Q (pc + 1) ls (.inr (hr h j x) :: st) h k) : AW md d scr Q pc ls (.inl x :: .inr (some j) :: st) h k := by
  intro p l e R s m args below meth c b B D ca H locs lc Qw C hlen hH hL hst RH
  obtain ⟨hsz, hP, ho⟩ := hH.1
  obtain ⟨i, rfl, hj⟩ := okH_pos ho hx (by intro q; cases q)
  have hxr : rg x := ok_hd hst
  have he := wso_at (b := b) (B := B) (ca := ca) hj
  rw [enc_4 hx] at he
  refine va_aldq C.1 C.2.1 C.2.2.2.2.2.2.1 hP i 3 he rfl (in_of hxr h0 h1) hd ?_
  rw [cl_nat hxr h0]
  show W p l e R s m args below meth c H locs k.1 k.2 Qw (F0 m (pc + 1) lc (va_rf ((hr h (i + 1) ((x.toNat : Nat) : Int)).map (az b B)) :: st.map (cv b B)))
  rw [to_nat h0]
  exact kk p l e R s m args below meth c b B D ca H locs lc Qw C hlen hH hL (ok_of trivial (ok_tl (ok_tl hst))) RH
theorem fn_up {h : AH} {j : Nat} {x v : Int} (h0 : 0 ≤ x) : (fun k : Nat => Int32.ofInt (hi (up h j x v) j k)) = upd (fun k : Nat => Int32.ofInt (hi h j k)) x.toNat (Int32.ofInt v) := by
  funext k
  rw [hi_up]
  unfold upd
  by_cases hk' : k = x.toNat
  · rw [if_pos hk', if_pos ⟨rfl, by omega⟩]
  · rw [if_neg hk', if_neg (fun q => hk' (by have := q.2; omega))]
theorem HR_arr {b B : Nat} {D : va_G} {ca : Nat → ClassId} {H0 H H1 : Heap} {locs : List Loc} {h h' : AH} {i kx : Nat} {cA : ClassId} {a0 a1 : vp_A} (hH : HR b B D ca H0 h H locs) (hj : i < h.1) (he : (wso b B ca h)[i]? = some (B + i, .inl (cA, a0))) (hn : h'.1 = h.1) (henc : ∀ x, x ≠ i + 1 → enc b B ca h' x = enc b B ca h x) (he' : enc b B ca h' (i + 1) = .inl (cA, a1)) (ho' : okH h')
    (e1 : H1[B + i]? = some (vp_cell cA a1)) (z : H1.size = H.size) (oq : ∀ q, q ≠ B + i → H1[q]? = H[q]?) : HR b B D ca H0 h' H1 (locs ++ [⟨B + i, kx⟩]) := by
  obtain ⟨⟨hsz, hP, ho⟩, hS⟩ := hH
  have h1 := hP.set wso_D he (e := .inl (cA, a1)) (H1 := H1) e1 oq
  rw [← he', wso_set hj hn henc] at h1
  exact ⟨⟨by rw [z, hn]; exact hsz, h1, ho'⟩, hS.put z oq (Nat.le_add_right _ _)⟩
theorem aw_iastore {j n : Nat} {x v : Int} (hd : decode md.2.1 pc = .ok (.iastore, 1)) (hx : hk h j = (1, n)) (h0 : 0 ≤ x) (h1 : x < n) (kk : AW md d scr Q (pc + 1) ls st (up h j x v) k) : AW md d scr Q pc ls (.inl v :: .inl x :: .inr (some j) :: st) h k := by
  intro p l e R s m args below meth c b B D ca H locs lc Qw C hlen hH hL hst RH
  obtain ⟨hsz, hP, ho⟩ := hH.1
  obtain ⟨i, rfl, hj⟩ := okH_pos ho hx (by intro q; cases q)
  have hv : rg v := ok_hd hst
  have hxr : rg x := ok_hd (ok_tl hst)
  have he := wso_at (b := b) (B := B) (ca := ca) hj
  rw [enc_1 hx] at he
  have hin := in_of hxr h0 h1
  refine W.iast C.1 C.2.1 (hP i _ he) ((C.2.2.2.2.2.2.1.2 0 _ rfl).1 n (fun q => .int (Int32.ofInt (hi h (i + 1) q)))) (fun q => by cases q) (by show ¬ (_ ∨ (arrV _ _ _).slots.size ≤ _); rw [arrV_size]; exact hin) rfl rfl hd fun H1 e1 z oq => ?_
  refine kk p l e R s m args below meth c b B D ca H1 _ lc Qw C hlen (HR_arr hH hj he rfl enc_up (enc_1 hx) (okH_up ho hv) ?_ z oq) hL (ok_tl (ok_tl (ok_tl hst))) RH
  rw [e1, fn_up h0, ← cl_nat hxr h0]
  rw [vp_cell_i, vp_cell_i, arrV_store]
  congr 2
  funext q
  by_cases hq : q = (Int32.ofInt x).toNatClampNeg
  · subst hq
    simp [updV, upd]
  · simp [updV, upd, hq]
theorem aw_bastore {j n : Nat} {x v : Int} (hd : decode md.2.1 pc = .ok (.bastore, 1)) (hx : hk h j = (2, n)) (h0 : 0 ≤ x) (h1 : x < n) (hv01 : v = 0 ∨ v = 1) (kk : AW md d scr Q (pc + 1) ls st (up h j x v) k) : AW md d scr Q pc ls (.inl v :: .inl x :: .inr (some j) :: st) h k := by
  intro p l e R s m args below meth c b B D ca H locs lc Qw C hlen hH hL hst RH
  obtain ⟨hsz, hP, ho⟩ := hH.1
  obtain ⟨i, rfl, hj⟩ := okH_pos ho hx (by intro q; cases q)
  have hv : rg v := ok_hd hst
  have hxr : rg x := ok_hd (ok_tl hst)
  have he := wso_at (b := b) (B := B) (ca := ca) hj
  rw [enc_2 hx] at he
  have hin := in_of hxr h0 h1
  have hnv : narrow .boolean (.int (Int32.ofInt v)) = .int (Int32.ofInt v) := (nar_i (t := .boolean) (v := v) hv01 b B).1
  refine W.zast C.1 C.2.1 (hP i _ he) ((C.2.2.2.2.2.2.1.2 1 _ rfl).1 n (fun q => .int (Int32.ofInt (hi h (i + 1) q)))) (fun q => by cases q) (by show ¬ (_ ∨ (arrV _ _ _).slots.size ≤ _); rw [arrV_size]; exact hin) rfl rfl hd fun H1 e1 z oq => ?_
  refine kk p l e R s m args below meth c b B D ca H1 _ lc Qw C hlen (HR_arr hH hj he rfl enc_up (enc_2 hx) (okH_up ho hv) ?_ z oq) hL (ok_tl (ok_tl (ok_tl hst))) RH
  rw [e1, fn_up h0, ← cl_nat hxr h0]
  rw [vp_cell_i, vp_cell_i, arrV_store]
  congr 2
  funext q
  by_cases hq : q = (Int32.ofInt x).toNatClampNeg
  · subst hq
    simpa [updV, upd] using hnv
  · simp [updV, upd, hq]
theorem aw_castore {j n : Nat} {x v : Int} (hd : decode md.2.1 pc = .ok (.castore, 1)) (hx : hk h j = (3, n)) (h0 : 0 ≤ x) (h1 : x < n) (hv01 : 0 ≤ v ∧ v < 65536) (kk : AW md d scr Q (pc + 1) ls st (up h j x v) k) : AW md d scr Q pc ls (.inl v :: .inl x :: .inr (some j) :: st) h k := by
  intro p l e R s m args below meth c b B D ca H locs lc Qw C hlen hH hL hst RH
  obtain ⟨hsz, hP, ho⟩ := hH.1
  obtain ⟨i, rfl, hj⟩ := okH_pos ho hx (by intro q; cases q)
  have hv : rg v := ok_hd hst
  have hxr : rg x := ok_hd (ok_tl hst)
  have he := wso_at (b := b) (B := B) (ca := ca) hj
  rw [enc_3 hx] at he
  have hin := in_of hxr h0 h1
  have hnv : narrow .char (.int (Int32.ofInt v)) = .int (Int32.ofInt v) := (nar_i (t := .char) (v := v) hv01 b B).1
  refine W.cast C.1 C.2.1 (hP i _ he) ((C.2.2.2.2.2.2.1.2 2 _ rfl).1 n (fun q => .int (Int32.ofInt (hi h (i + 1) q)))) (fun q => by cases q) (by show ¬ (_ ∨ (arrV _ _ _).slots.size ≤ _); rw [arrV_size]; exact hin) rfl rfl hd fun H1 e1 z oq => ?_
  refine kk p l e R s m args below meth c b B D ca H1 _ lc Qw C hlen (HR_arr hH hj he rfl enc_up (enc_3 hx) (okH_up ho hv) ?_ z oq) hL (ok_tl (ok_tl (ok_tl hst))) RH
  rw [e1, fn_up h0, ← cl_nat hxr h0]
  rw [vp_cell_i, vp_cell_i, arrV_store]
  congr 2
  funext q
  by_cases hq : q = (Int32.ofInt x).toNatClampNeg
  · subst hq
    simpa [updV, upd] using hnv
  · simp [updV, upd, hq]
/-- a row of states gets one -/
theorem aw_aastore {j n u : Nat} {x : Int} (hd : decode md.2.1 pc = .ok (.aastore, 1)) (hx : hk h j = (4, n)) (h0 : 0 ≤ x) (h1 : x < n) (hu : hk h u = (0, 2)) (kk : AW md d scr Q (pc + 1) ls st (ur h j x (some u)) k) : AW md d scr Q pc ls (.inr (some u) :: .inl x :: .inr (some j) :: st) h k := by
  intro p l e R s m args below meth c b B D ca H locs lc Qw C hlen hH hL hst RH
  obtain ⟨hsz, hP, ho⟩ := hH.1
  obtain ⟨i, rfl, hj⟩ := okH_pos ho hx (by intro q; cases q)
  obtain ⟨iu, rfl, hju⟩ := okH_pos ho hu (by intro q; cases q)
  have hxr : rg x := ok_hd (ok_tl hst)
  have he := wso_at (b := b) (B := B) (ca := ca) hj
  rw [enc_4 hx] at he
  have heu := wso_at (b := b) (B := B) (ca := ca) hju
  rw [enc_o hu] at heu
  have hin := in_of hxr h0 h1
  have hlt : (Int32.ofInt x).toNatClampNeg < n := Nat.not_le.mp fun q => hin (Or.inr q)
  have hn0 : ¬ Int32.ofInt x < 0 := fun q => hin (Or.inl q)
  have hK := C.2.2.2.2.2.2.1
  obtain ⟨r', hr', cellV, g1, g2, g3, -⟩ := hP iu _ heu
  have hcls := (hK.1 2 _ (cl_at (ci := 2) (by decide))).2
  obtain ⟨kA, comp, k1, k2, k3, -⟩ := (hK.2 3 _ rfl).2
  have hcomp : comp = D.1 2 := Option.some.inj (k3.symm.trans hcls.1)
  subst hcomp
  obtain ⟨kC, hkC, -⟩ := hcls.2
  refine W.aast C.1 C.2.1 (hP i _ he) (fun q h => by cases h) (fun h => by cases h) k1 k2 rfl hkC ⟨hn0, by show _ < (arrV _ _ _).slots.size; rw [arrV_size]; exact hlt⟩ g1 (fun q h => by rw [g3] at h; cases h) (by rw [g2]; exact hkC) (by rw [g2]; exact va_assign hcls) rfl rfl hd fun H1 e1 z oq => ?_
  refine kk p l e R s m args below meth c b B D ca H1 _ lc Qw C hlen (HR_arr hH hj he rfl enc_ur (enc_4 hx) (okH_ur ho) ?_ z oq) hL (ok_tl (ok_tl (ok_tl hst))) RH
  rw [e1]
  rw [vp_cell_q, vp_cell_q, arrV_store]
  congr 2
  funext q
  by_cases hq : q = (Int32.ofInt x).toNatClampNeg
  · subst hq
    rw [cl_nat hxr h0]
    simp [updV, hr_ur, to_nat h0, va_rf, az]
  · have hq2 : ¬ (q : Int) = x := fun e => hq (by rw [cl_nat hxr h0]; omega)
    simp [updV, hq, hr_ur, hq2]
/-- the script -/
theorem aw_slen {q : Nat × (Nat → Int)} (hd : decode md.2.1 pc = .ok (.arraylength, 1)) (hs : scr = some q) (kk : AW md d scr Q (pc + 1) ls (.inl q.1 :: st) h k) : AW md d scr Q pc ls (.inr (some 0) :: st) h k := by
  intro p l e R s m args below meth c b B D ca H locs lc Qw C hlen hH hL hst RH
  obtain ⟨hX, hbB, hB, hL31, hq⟩ := C.2.2.2.2.2.2.2.2.2.2.2.2 q hs
  refine va_slen C.1 C.2.1 hX (hB ▸ hbB) (Nat.not_le.mpr hbB) hH.2 hd ?_
  exact kk p l e R s m args below meth c b B D ca H locs lc Qw C hlen hH hL (ok_of ⟨by omega, by omega⟩ (ok_tl hst)) RH
theorem aw_sld {q : Nat × (Nat → Int)} {x : Int} (hd : decode md.2.1 pc = .ok (.iaload, 1)) (hs : scr = some q) (h0 : 0 ≤ x) (h1 : x < q.1) (kk : AW md d scr Q (pc + 1) ls (.inl (q.2 x.toNat) :: st) h k) : AW md d scr Q pc ls (.inl x :: .inr (some 0) :: st) h k := by
  intro p l e R s m args below meth c b B D ca H locs lc Qw C hlen hH hL hst RH
  obtain ⟨hX, hbB, hB, hL31, hq⟩ := C.2.2.2.2.2.2.2.2.2.2.2.2 q hs
  have hxr : rg x := ok_hd hst
  refine va_sld C.1 C.2.1 hX (hB ▸ hbB) (Nat.not_le.mpr hbB) hH.2 (in_of hxr h0 h1) hd ?_
  rw [cl_nat hxr h0]
  exact kk p l e R s m args below meth c b B D ca H locs lc Qw C hlen hH hL (ok_of (hq _) (ok_tl (ok_tl hst))) RH
end AR
end
section
section CA
variable {md : MD} {d : Nat} {scr : Option (Nat × (Nat → Int))} {Q : Option Int → AH → Prop} {pc : Nat} {ls : List (Option AV)} {st : List AV} {h : AH} {k : Nat × Nat}
theorem okH_nw {h : AH} {kd : Nat × Nat} (ho : okH h) (hk0 : ∀ ci, kd = (0, ci) → ci < 8) : okH (nw h kd) := by
  refine ⟨fun a b => ?_, ?_, fun j hj => ?_, fun j ci hj => ?_⟩
  · show rg (if a = h.1 + 1 then 0 else h.2.2.2 a b)
    split
    · decide
    · exact ho.1 a b
  · show (if 0 = h.1 + 1 then kd else h.2.1 0) = _
    rw [if_neg (by omega)]
    exact ho.2.1
  · have hj' : h.1 + 1 < j := hj
    show (if j = h.1 + 1 then kd else h.2.1 j) = _
    rw [if_neg (by omega)]
    exact ho.2.2.1 j (by omega)
  · have hj' : (if j = h.1 + 1 then kd else h.2.1 j) = (0, ci) := hj
    split at hj'
    · exact hk0 ci hj'
    · exact ho.2.2.2 j ci hj'
theorem enc_nw {b B : Nat} {ca : Nat → ClassId} {h : AH} {kd : Nat × Nat} : ∀ i, i ≤ h.1 → enc b B ca (nw h kd) i = enc b B ca h i := by
  intro i hi'
  have hne : ¬ i = h.1 + 1 := by omega
  exact enc_cong (by show (if i = h.1 + 1 then kd else h.2.1 i) = _; rw [if_neg hne]; rfl) (fun k => by show (if i = h.1 + 1 then none else h.2.2.1 i k) = _; rw [if_neg hne]; rfl) (fun k => by show (if i = h.1 + 1 then 0 else h.2.2.2 i k) = _; rw [if_neg hne]; rfl)
theorem hk_nw {h : AH} {kd : Nat × Nat} : hk (nw h kd) (h.1 + 1) = kd := by show (if h.1 + 1 = h.1 + 1 then kd else _) = kd; rw [if_pos rfl]
theorem hr_nw {h : AH} {kd : Nat × Nat} {x : Int} : hr (nw h kd) (h.1 + 1) x = none := by show (if h.1 + 1 = h.1 + 1 then none else _) = none; rw [if_pos rfl]
theorem hi_nw {h : AH} {kd : Nat × Nat} {x : Int} : hi (nw h kd) (h.1 + 1) x = 0 := by show (if h.1 + 1 = h.1 + 1 then 0 else _) = (0 : Int); rw [if_pos rfl]
theorem HR_new {b B : Nat} {D : va_G} {ca : Nat → ClassId} {H0 H H1 : Heap} {locs : List Loc} {h : AH} {kd : Nat × Nat} (hH : HR b B D ca H0 h H locs) (hk0 : ∀ ci, kd = (0, ci) → ci < 8)
    (e1 : va_at D vwCl (H.size, enc b B ca (nw h kd) (h.1 + 1)) H1) (z : H1.size = H.size + 1) (oq : ∀ q, q < H.size → H1[q]? = H[q]?) : HR b B D ca H0 (nw h kd) H1 locs := by
  obtain ⟨⟨hsz, hP, ho⟩, hS⟩ := hH
  have h1 : va_P D vwCl (wso b B ca h ++ [(B + h.1, enc b B ca (nw h kd) (h.1 + 1))]) H1 := by
    refine (hP.kept (fun k x hx => oq x.1 ((hP k x hx).lt))).app (fun k x hx => ?_)
    have hz : k < 1 := (List.getElem?_eq_some_iff.mp hx).1
    rw [show k = 0 by omega] at hx
    cases hx
    rw [← hsz]
    exact e1
  rw [wso_push rfl enc_nw] at h1
  exact ⟨⟨by show H1.size = B + (h.1 + 1); omega, h1, okH_nw ho hk0⟩, Nat.le_trans hS.1 (by omega), fun x g1 g2 => (oq x (Nat.lt_of_lt_of_le g1 hS.1)).trans (hS.2.1 x g1 g2), hS.2.2⟩
theorem dflt_ok : ∀ ci, ci < 8 → ∀ kf, kf < cN ci → defaultValue (cT ci kf) = if isR (cT ci kf) = true then .null else .int 0 := by
  intro ci hci
  match ci, hci with
  | 0, _ => decide +kernel
  | 1, _ => decide +kernel
  | 2, _ => decide +kernel
  | 3, _ => decide +kernel
  | 4, _ => decide +kernel
  | 5, _ => decide +kernel
  | 6, _ => decide +kernel
  | 7, _ => decide +kernel
theorem aw_new {idx ci : Nat} (hd : decode md.2.1 pc = .ok (.new idx, 3)) (hci : ci < 8) (hcl : Cond.classLink md.1.cls idx (cR ci) ∈ tbG) (hinst : Cond.instantiable (cR ci) (cN ci) ∈ tbG) (hini : Cond.initialized (cR ci) ∈ tbG) (h1 : k.1 + 1 ≤ md.2.2.2.2.1) (h2 : k.2 + cN ci ≤ md.2.2.2.2.2)
    (kk : AW md d scr Q (pc + 3) ls (.inr (some (h.1 + 1)) :: st) (nw h (0, ci)) (k.1 + 1, k.2 + cN ci)) : AW md d scr Q pc ls st h k := by
  intro p l e R s m args below meth c b B D ca H locs lc Qw C hlen hH hL hst RH
  have hK := C.2.2.2.2.2.2.1
  have hts := C.2.2.2.2.1
  have hKn := hK.1 ci _ (cl_at hci)
  refine W.newcK C.1 C.2.1 C.2.2.2.1 (hts _ hcl) (hts _ hinst) (hts _ hini) rfl hd (by rw [C.2.2.2.2.2.2.2.2.1]; exact h1) (by rw [C.2.2.2.2.2.2.2.2.2.1]; exact h2) hKn.2.1 rfl fun H1 kC hkC e1 z1 o1 => ?_
  have hsz := hH.1.1
  have g := kk p l e R s m args below meth c b B D ca H1 locs lc Qw C hlen (HR_new hH (fun x q => by cases q; exact hci) ?_ z1 o1) hL (ok_of trivial hst) RH
  · rw [hsz]
    exact g
  · rw [enc_o hk_nw]
    refine ⟨_, cl_at hci, (u_born (cT ci) hts (cl_words hci) hKn hkC e1 (cl_ty hci)).to (fun j hj => ?_)⟩
    have hj' : j < cN ci := hj
    rw [dflt_ok ci hci j hj']
    simp only [vp_V, List.getD_eq_getElem?_getD]
    rw [fs_at hj']
    simp only [fvl, hr_nw, hi_nw]
    rfl
theorem aw_newarr_int {n : Nat} {x : Int} {at' : ArrayType} (hd : decode md.2.1 pc = .ok (.newarray at', 2)) (hat : newarray.typeOf at' = .int) (harr : Cond.arrayClass .int ∈ tbG) (hx : x = (n : Int)) (hn : n ≤ 65536) (h1 : k.1 + 1 ≤ md.2.2.2.2.1) (h2 : k.2 + n ≤ md.2.2.2.2.2)
    (kk : AW md d scr Q (pc + 2) ls (.inr (some (h.1 + 1)) :: st) (nw h (1, n)) (k.1 + 1, k.2 + n)) : AW md d scr Q pc ls (.inl x :: st) h k := by
  intro p l e R s m args below meth c b B D ca H locs lc Qw C hlen hH hL hst RH
  have hK := C.2.2.2.2.2.2.1
  have hts := C.2.2.2.2.1
  subst hx
  have hxr : rg (n : Int) := ok_hd hst
  have hsz := hH.1.1
  refine va_newaK C.1 C.2.1 (hts _ (hat.symm ▸ harr)) rfl hd (n := Int32.ofInt (n : Int)) (N := n) rfl (fun q => ?_) (by rw [cl_nat hxr (by omega)]; omega) ?_ (by rw [C.2.2.2.2.2.2.2.2.1]; exact h1) (by rw [C.2.2.2.2.2.2.2.2.2.1]; exact h2) rfl fun H1 cA e1 z1 o1 hAr hNm => ?_
  · have := (i_lt hxr rg0).mp q
    omega
  · rw [hat]
    simp only [componentBytes]
    omega
  · rw [hat] at e1 hAr hNm
    have hcA : cA = ca 1 := Option.some.inj (hNm.symm.trans (show s.vm.findClass ("[" ++ FieldType.toString .int) = some (ca 1) from (hK.2 0 _ rfl).2))
    have e1' : va_at D vwCl (H.size, enc b B ca (nw h (1, n)) (h.1 + 1)) H1 := by
      rw [enc_1 hk_nw]
      show H1[H.size]? = some (vp_cell (ca 1) (n, .inl _))
      rw [e1, hcA, vp_cell_i]
      congr 2
      funext q
      rw [hi_nw]
      rfl
    have g := kk p l e R s m args below meth c b B D ca H1 locs lc Qw C hlen (HR_new hH (fun x q => by cases q) e1' z1 o1) hL (ok_of trivial (ok_tl hst)) RH
    rw [hsz]
    exact g
theorem aw_newarr_bool {n : Nat} {x : Int} {at' : ArrayType} (hd : decode md.2.1 pc = .ok (.newarray at', 2)) (hat : newarray.typeOf at' = .boolean) (harr : Cond.arrayClass .boolean ∈ tbG) (hx : x = (n : Int)) (hn : n ≤ 65536) (h1 : k.1 + 1 ≤ md.2.2.2.2.1) (h2 : k.2 + n ≤ md.2.2.2.2.2)
    (kk : AW md d scr Q (pc + 2) ls (.inr (some (h.1 + 1)) :: st) (nw h (2, n)) (k.1 + 1, k.2 + n)) : AW md d scr Q pc ls (.inl x :: st) h k := by
  intro p l e R s m args below meth c b B D ca H locs lc Qw C hlen hH hL hst RH
  have hK := C.2.2.2.2.2.2.1
  have hts := C.2.2.2.2.1
  subst hx
  have hxr : rg (n : Int) := ok_hd hst
  have hsz := hH.1.1
  refine va_newaK C.1 C.2.1 (hts _ (hat.symm ▸ harr)) rfl hd (n := Int32.ofInt (n : Int)) (N := n) rfl (fun q => ?_) (by rw [cl_nat hxr (by omega)]; omega) ?_ (by rw [C.2.2.2.2.2.2.2.2.1]; exact h1) (by rw [C.2.2.2.2.2.2.2.2.2.1]; exact h2) rfl fun H1 cA e1 z1 o1 hAr hNm => ?_
  · have := (i_lt hxr rg0).mp q
    omega
  · rw [hat]
    simp only [componentBytes]
    omega
  · rw [hat] at e1 hAr hNm
    have hcA : cA = ca 2 := Option.some.inj (hNm.symm.trans (show s.vm.findClass ("[" ++ FieldType.toString .boolean) = some (ca 2) from (hK.2 1 _ rfl).2))
    have e1' : va_at D vwCl (H.size, enc b B ca (nw h (2, n)) (h.1 + 1)) H1 := by
      rw [enc_2 hk_nw]
      show H1[H.size]? = some (vp_cell (ca 2) (n, .inl _))
      rw [e1, hcA, vp_cell_i]
      congr 2
      funext q
      rw [hi_nw]
      rfl
    have g := kk p l e R s m args below meth c b B D ca H1 locs lc Qw C hlen (HR_new hH (fun x q => by cases q) e1' z1 o1) hL (ok_of trivial (ok_tl hst)) RH
    rw [hsz]
    exact g
theorem aw_newarr_char {n : Nat} {x : Int} {at' : ArrayType} (hd : decode md.2.1 pc = .ok (.newarray at', 2)) (hat : newarray.typeOf at' = .char) (harr : Cond.arrayClass .char ∈ tbG) (hx : x = (n : Int)) (hn : n ≤ 65536) (h1 : k.1 + 1 ≤ md.2.2.2.2.1) (h2 : k.2 + n ≤ md.2.2.2.2.2)
    (kk : AW md d scr Q (pc + 2) ls (.inr (some (h.1 + 1)) :: st) (nw h (3, n)) (k.1 + 1, k.2 + n)) : AW md d scr Q pc ls (.inl x :: st) h k := by
  intro p l e R s m args below meth c b B D ca H locs lc Qw C hlen hH hL hst RH
  have hK := C.2.2.2.2.2.2.1
  have hts := C.2.2.2.2.1
  subst hx
  have hxr : rg (n : Int) := ok_hd hst
  have hsz := hH.1.1
  refine va_newaK C.1 C.2.1 (hts _ (hat.symm ▸ harr)) rfl hd (n := Int32.ofInt (n : Int)) (N := n) rfl (fun q => ?_) (by rw [cl_nat hxr (by omega)]; omega) ?_ (by rw [C.2.2.2.2.2.2.2.2.1]; exact h1) (by rw [C.2.2.2.2.2.2.2.2.2.1]; exact h2) rfl fun H1 cA e1 z1 o1 hAr hNm => ?_
  · have := (i_lt hxr rg0).mp q
    omega
  · rw [hat]
    simp only [componentBytes]
    omega
  · rw [hat] at e1 hAr hNm
    have hcA : cA = ca 3 := Option.some.inj (hNm.symm.trans (show s.vm.findClass ("[" ++ FieldType.toString .char) = some (ca 3) from (hK.2 2 _ rfl).2))
    have e1' : va_at D vwCl (H.size, enc b B ca (nw h (3, n)) (h.1 + 1)) H1 := by
      rw [enc_3 hk_nw]
      show H1[H.size]? = some (vp_cell (ca 3) (n, .inl _))
      rw [e1, hcA, vp_cell_i]
      congr 2
      funext q
      rw [hi_nw]
      rfl
    have g := kk p l e R s m args below meth c b B D ca H1 locs lc Qw C hlen (HR_new hH (fun x q => by cases q) e1' z1 o1) hL (ok_of trivial (ok_tl hst)) RH
    rw [hsz]
    exact g
theorem aw_newref {n : Nat} {x : Int} {idx : Nat} (hd : decode md.2.1 pc = .ok (.anewarray idx, 3)) (hcl : Cond.classLink md.1.cls idx RX2 ∈ tbG) (hx : x = (n : Int)) (hn : n ≤ 65536) (h1 : k.1 + 1 ≤ md.2.2.2.2.1) (h2 : k.2 + n ≤ md.2.2.2.2.2)
    (kk : AW md d scr Q (pc + 3) ls (.inr (some (h.1 + 1)) :: st) (nw h (4, n)) (k.1 + 1, k.2 + n)) : AW md d scr Q pc ls (.inl x :: st) h k := by
  intro p l e R s m args below meth c b B D ca H locs lc Qw C hlen hH hL hst RH
  have hK := C.2.2.2.2.2.2.1
  have hts := C.2.2.2.2.1
  subst hx
  have hxr : rg (n : Int) := ok_hd hst
  have hsz := hH.1.1
  have hcn := cl_nat hxr (by omega)
  have hcn' : (Int32.ofInt (n : Int)).toNatClampNeg = n := by rw [hcn]; omega
  refine W.anew C.1 C.2.1 C.2.2.2.1 (hts _ hcl) (C.2.2.2.2.2.2.2.1.2.2.use) rfl hd (n := Int32.ofInt (n : Int)) rfl (fun q => ?_) (by rw [hcn']; omega) (by rw [C.2.2.2.2.2.2.2.2.1]; exact h1) (by rw [hcn', C.2.2.2.2.2.2.2.2.2.1]; exact h2) fun cA kA comp f1 f2 f3 f4 => ?_
  · have := (i_lt hxr rg0).mp q
    omega
  · rw [hcn']
    generalize hH1 : H.push ({ cls := cA, slots := Array.replicate n .null, vm := .none } : Cell) = H1
    have z1 : H1.size = H.size + 1 := by rw [← hH1, Array.size_push]
    have e1 : H1[H.size]? = some (arrV cA n (fun _ => .null)) := by rw [← hH1, Array.getElem?_push_size, ← arrV_new]
    have o1 : ∀ q : Nat, q < H.size → H1[q]? = H[q]? := fun q hq => by rw [← hH1, Array.getElem?_push, if_neg (Nat.ne_of_lt hq)]
    obtain ⟨kB, cmp, r1, r2, r3, r4⟩ := (hK.2 3 _ rfl).2
    have hcA : cA = ca 4 := Option.some.inj (f1.symm.trans r4)
    have e1' : va_at D vwCl (H.size, enc b B ca (nw h (4, n)) (h.1 + 1)) H1 := by
      rw [enc_4 hk_nw]
      show H1[H.size]? = some (vp_cell (ca 4) (n, .inr (.inr (.inr (.inr _)))))
      rw [e1, hcA, vp_cell_q]
      congr 2
      funext q
      rw [hr_nw]
      rfl
    have g := kk p l e R s m args below meth c b B D ca H1 locs lc Qw C hlen (HR_new hH (fun x q => by cases q) e1' z1 o1) hL (ok_of trivial (ok_tl hst)) RH
    rw [hsz]
    exact g
/-! returns -/
theorem aw_ireturn {v : Int} (hd : decode md.2.1 pc = .ok (.ireturn, 1)) (hv : okr md.2.2.2.1 v) (hq : Q (some v) h) (h1 : k.1 ≤ md.2.2.2.2.1) (h2 : k.2 ≤ md.2.2.2.2.2) : AW md d scr Q pc ls [.inl v] h k := by
  intro p l e R s m args below meth c b B D ca H locs lc Qw C hlen hH hL hst RH
  exact RH (some v) pc h H locs lc k hH hq h1 h2 hv hd
theorem aw_return (hd : decode md.2.1 pc = .ok (.return_, 1)) (hr : md.2.2.2.1 = none) (hq : Q none h) (h1 : k.1 ≤ md.2.2.2.2.1) (h2 : k.2 ≤ md.2.2.2.2.2) : AW md d scr Q pc ls [] h k := by
  intro p l e R s m args below meth c b B D ca H locs lc Qw C hlen hH hL hst RH
  exact RH none pc h H locs lc k hH hq h1 h2 hr hd
/-! calls -/
def MO (md : MD) (n : Nat) : Prop := Cond.initialized md.1.cls ∈ tbG ∧ Cond.code md.1 md.2.1 md.2.2.1 md.2.2.2.1 ∈ tbG ∧ (md.1.cls ≠ "java/lang/invoke/MethodHandle" ∧ md.1.cls ≠ "java/lang/invoke/VarHandle" ∧ (parseMethodDescriptor md.1.desc).map (fun d => d.parameters.length) = some n) ∧ md.2.2.1 ≤ 20 ∧ plainName md.1.cls = true
theorem goodG {w : Cond} (h : w ∈ tbG) : w ∈ tbG ∧ ((w.onTables && w.keeps) = true ∨ ∃ ty, w = .arrayClass ty) := ⟨h, good_of_word (List.mem_filter.mp h).2⟩
theorem good_wmo {md : MD} {n : Nat} (h : MO md n) : GoodIn tbG (wmo md) := fun w hw => (List.mem_cons.mp hw).elim (fun e => by rw [e]; exact goodG h.2.1) goodG
theorem st_cat {b B : Nat} (st : List AV) : ((st.map (cv b B)).map fun v => v.category).sum = st.length := by
  induction st with
  | nil => rfl
  | cons a t ih =>
    simp only [List.map_cons, List.sum_cons, List.length_cons, cv_cat, ih]
    omega
theorem q_call {p : Program} {l : Launch} {e : Env} {R : Room} {s : State} {m : MethodId} {args : Array Value} {below : List Frame} {meth : Method} {c : Code} {H : Heap} {locs : List Loc} {cells slots mc ms : Nat} {Qw : State → Prop} {pc : Nat} {lc : Array Slot} {st0 rest : List Value} {b B : Nat} {D : va_G} {ca : Nat → ClassId} {Q : Option Int → AH → Prop} {a : Array Value}
    (hr : va_Run p l e R s m args below meth c H locs cells slots mc ms (F0 m pc lc st0) rest (Pst b B D ca Q a) (fun q => B ≤ q)) (hS : va_S (fun q => B ≤ q) s.heap H locs)
    (kk : ∀ (r : Option Int) (h' : AH) (H1 : Heap) (locs1 : List Loc), (∀ v, r = some v → rg v) → Q r h' → HR b B D ca s.heap h' H1 locs1 → W p l e R s m args below meth c H1 locs1 (cells + mc) (slots + ms) Qw (F0 m (pc + 3) lc ((r.map fun v => Value.int (Int32.ofInt v)).toList ++ rest))) :
    W p l e R s m args below meth c H locs cells slots Qw (F0 m pc lc st0) := by
  intro T hT X
  obtain ⟨v, st₀, t, T', L, h0, X', hL, e1, e2, ⟨⟨r, h', hv, hrg, hq, hh⟩, hz, hk⟩, sp⟩ := hr T hT X
  cases hv
  rw [h0] at hz hk
  obtain ⟨t2, a1, b1⟩ := kk r h' T'.heap (locs ++ L) hrg hq ⟨by rw [e1]; exact hh, Nat.le_trans hS.1 (by rw [e1]; exact hz), fun q h1 h2 => by rw [e1, hk q (Nat.lt_of_lt_of_le h1 hS.1) h2]; exact hS.2.1 q h1 h2, fun q hq => by
      rcases List.mem_append.mp hq with h | h
      · exact hS.2.2 q h
      · exact hL q h⟩ T' rfl X'
  exact ⟨t2, sp t2 a1, b1⟩
theorem prc_S {b B : Nat} {D : va_G} {ca : Nat → ClassId} {as : List AV} {h : AH} {s : State} {H : Heap} (hH : HP b B D ca h H) (hK : va_K D vwCl (tys ca) s) (hN : NW s) : PreS s H (Prc b B D ca as h) (as.map (cv b B)) :=
  ⟨fun a U g mk q => by obtain ⟨q0, qP, qK, qN⟩ := q; exact ⟨q0, qP, va_K.moved (u := U) (U := U.calling g mk a) (Vm.Alike.refl U.vm) qK, qN.call⟩, fun U hU hW => ⟨rfl, by rw [hU]; exact hH, va_K.moved hW.alike hK, hN.warm hW⟩⟩
theorem frames_ok {R : Room} {d maxL : Nat} {md : MD} (hd1 : 1 ≤ d) (hf : d ≤ R.frames) (hl : 40 * d ≤ R.locals) (hm : maxL ≤ 20) : (rmo (d - 1) md).frames + 1 ≤ R.frames ∧ 8 + (maxL + 11) + (rmo (d - 1) md).locals ≤ R.locals := by
  show d - 1 + 1 ≤ R.frames ∧ 8 + (maxL + 11) + 40 * (d - 1) ≤ R.locals
  omega
theorem ok_as {st as : List AV} (h : ∀ x ∈ as.reverse ++ st, ok x) : (∀ x ∈ as, ok x) ∧ ∀ x ∈ st, ok x := ⟨fun x hx => h x (List.mem_append_left _ (List.mem_reverse.mpr hx)), fun x hx => h x (List.mem_append_right _ hx)⟩
theorem ok_res {st : List AV} {r : Option Int} (hr : ∀ v, r = some v → rg v) (h : ∀ x ∈ st, ok x) : ∀ x ∈ (r.map Sum.inl).toList ++ st, ok x := by
  intro x hx
  rcases List.mem_append.mp hx with hx | hx
  · cases r with
    | none => cases hx
    | some v =>
      rw [List.mem_singleton.mp hx]
      exact hr v rfl
  · exact h x hx
theorem res_map {b B : Nat} {st : List AV} {r : Option Int} : ((r.map Sum.inl).toList ++ st).map (cv b B) = (r.map fun v => Value.int (Int32.ofInt v)).toList ++ st.map (cv b B) := by
  cases r <;> rfl
/-- a method of an object's own class -/
theorem aw_invV {md' : MD} {idx n ci j : Nat} {as : List AV} (hd : decode md.2.1 pc = .ok (.invokevirtual idx, 3)) (hm : MO md' n) (hi : Cond.instanceMethod md'.1 ∈ tbG) (hsel : Cond.selects md'.1.cls md'.1 md'.1 ∈ tbG) (hl : Cond.methodLink md.1.cls idx md'.1 ∈ tbG) (hC : cR ci = md'.1.cls) (hx : hk h j = (0, ci)) (hn : as.length = n) (hd1 : 1 ≤ d) (hst8 : st.length ≤ 8)
    (h1 : k.1 + md'.2.2.2.2.1 ≤ md.2.2.2.2.1) (h2 : k.2 + md'.2.2.2.2.2 ≤ md.2.2.2.2.2)
    (hM : AM (d - 1) md' (.inr (some j) :: as) h (fun r h' => AW md d scr Q (pc + 3) ls ((r.map Sum.inl).toList ++ st) h' (k.1 + md'.2.2.2.2.1, k.2 + md'.2.2.2.2.2))) : AW md d scr Q pc ls (as.reverse ++ .inr (some j) :: st) h k := by
  intro p l e R s m args below meth c b B D ca H locs lc Qw C hlen hH hL hst RH
  obtain ⟨hsz, hP, ho⟩ := hH.1
  obtain ⟨i, rfl, hj⟩ := okH_pos ho hx (by intro q; cases q)
  have hci := ho.2.2.2 _ _ hx
  have hK := C.2.2.2.2.2.2.1
  have hts := C.2.2.2.2.1
  have he := wso_at (b := b) (B := B) (ca := ca) hj
  rw [enc_o hx] at he
  obtain ⟨hoas, host⟩ := ok_as hst
  have hfr := frames_ok (md := md') hd1 C.2.2.2.2.2.2.2.2.2.2.1 C.2.2.2.2.2.2.2.2.2.2.2.1 hm.2.2.2.1
  have hT : GoodIn tbG (wsV md.1.cls idx md'.1.cls md'.1 (wmo md')) := by
    intro w hw
    rcases List.mem_append.mp hw with hw | hw
    · simp only [List.mem_cons, List.not_mem_nil, or_false] at hw
      rcases hw with rfl | rfl | rfl | rfl
      · exact goodG hl
      · exact goodG hi
      · exact goodG hsel
      · exact goodG hm.1
    · exact good_wmo hm w hw
  have hrec := va_recv hK hP (cl_at hci) he
  rw [hC] at hrec
  have hPS := prc_S (as := .inr (some (i + 1)) :: as) hH.1 hK C.2.2.2.2.2.2.2.1.2
  refine q_call (rest := st.map (cv b B)) (va_runV (As := as.map (cv b B)) (b := B + i) ⟨C.1, C.2.1, C.2.2.1, C.2.2.2.1, hts⟩ (hM l b B D ca (ok_of trivial hoas)) (cwV n hts hT rfl rfl rfl ⟨rfl, hm.2.2.1⟩ hfr) ⟨hPS.1, hrec, hPS.2⟩ rfl (by rw [List.length_map]; exact hn) (by show lc.size = _; rw [hL.1.1, hlen]) (by simp [cv, va_rf, az]) (lv_room (by rw [st_cat]; exact hst8)) hd ⟨by rw [C.2.2.2.2.2.2.2.2.1]; exact h1, by rw [C.2.2.2.2.2.2.2.2.2.1]; exact h2⟩) hH.2 fun r h' H1 locs1 hrg hq hH1 => ?_
  have g := hq p l e R s m args below meth c b B D ca H1 locs1 lc Qw C hlen hH1 hL (ok_res hrg (ok_tl host)) RH
  rw [res_map] at g
  exact g
end CA
end
section
section MO
variable {md : MD} {d : Nat} {scr : Option (Nat × (Nat → Int))} {Q : Option Int → AH → Prop} {pc : Nat} {ls : List (Option AV)} {st : List AV} {h : AH} {k : Nat × Nat}
theorem aw_invS {md' : MD} {idx n : Nat} {as : List AV} (hd : decode md.2.1 pc = .ok (.invokestatic idx, 3)) (hm : MO md' n) (hi : Cond.static md'.1 ∈ tbG) (hl : Cond.methodLink md.1.cls idx md'.1 ∈ tbG) (hC : md'.1.cls = md.1.cls) (hn : as.length = n) (hd1 : 1 ≤ d) (hst8 : st.length ≤ 8)
    (h1 : k.1 + md'.2.2.2.2.1 ≤ md.2.2.2.2.1) (h2 : k.2 + md'.2.2.2.2.2 ≤ md.2.2.2.2.2)
    (hM : AM (d - 1) md' as h (fun r h' => AW md d scr Q (pc + 3) ls ((r.map Sum.inl).toList ++ st) h' (k.1 + md'.2.2.2.2.1, k.2 + md'.2.2.2.2.2))) : AW md d scr Q pc ls (as.reverse ++ st) h k := by
  intro p l e R s m args below meth c b B D ca H locs lc Qw C hlen hH hL hst RH
  have hK := C.2.2.2.2.2.2.1
  have hts := C.2.2.2.2.1
  obtain ⟨hoas, host⟩ := ok_as hst
  have hfr := frames_ok (md := md') hd1 C.2.2.2.2.2.2.2.2.2.2.1 C.2.2.2.2.2.2.2.2.2.2.2.1 hm.2.2.2.1
  have hT : GoodIn tbG (wsS md.1.cls idx md'.1 (wmo md')) := by
    intro w hw
    rcases List.mem_append.mp hw with hw | hw
    · simp only [List.mem_cons, List.not_mem_nil, or_false] at hw
      rcases hw with rfl | rfl | rfl
      · exact goodG hl
      · exact goodG hi
      · exact goodG (hC ▸ hm.1)
    · exact good_wmo hm w hw
  refine q_call (rest := st.map (cv b B)) (va_runS (As := as.map (cv b B)) ⟨C.1, C.2.1, C.2.2.1, C.2.2.2.1, hts⟩ (hM l b B D ca hoas) (cwS n hts hT rfl rfl rfl ⟨hC, hm.2.2.1⟩ hfr) (prc_S hH.1 hK C.2.2.2.2.2.2.2.1.2) rfl (by rw [List.length_map]; exact hn) (by show lc.size = _; rw [hL.1.1, hlen]) (by simp) (lv_room (by rw [st_cat]; exact hst8)) hd ⟨by rw [C.2.2.2.2.2.2.2.2.1]; exact h1, by rw [C.2.2.2.2.2.2.2.2.2.1]; exact h2⟩) hH.2 fun r h' H1 locs1 hrg hq hH1 => ?_
  have g := hq p l e R s m args below meth c b B D ca H1 locs1 lc Qw C hlen hH1 hL (ok_res hrg host) RH
  rw [res_map] at g
  exact g
/-- a static method of a nest mate -/
theorem aw_invSN {md' : MD} {idx n : Nat} {host : String} {as : List AV} (hd : decode md.2.1 pc = .ok (.invokestatic idx, 3)) (hm : MO md' n) (hi : Cond.static md'.1 ∈ tbG) (hl : (md.1.cls, idx, md'.1, host) ∈ nsL) (hn : as.length = n) (hd1 : 1 ≤ d) (hst8 : st.length ≤ 8)
    (h1 : k.1 + md'.2.2.2.2.1 ≤ md.2.2.2.2.1) (h2 : k.2 + md'.2.2.2.2.2 ≤ md.2.2.2.2.2)
    (hM : AM (d - 1) md' as h (fun r h' => AW md d scr Q (pc + 3) ls ((r.map Sum.inl).toList ++ st) h' (k.1 + md'.2.2.2.2.1, k.2 + md'.2.2.2.2.2))) : AW md d scr Q pc ls (as.reverse ++ st) h k := by
  intro p l e R s m args below meth c b B D ca H locs lc Qw C hlen hH hL hst RH
  have hK := C.2.2.2.2.2.2.1
  have hts := C.2.2.2.2.1
  obtain ⟨hoas, host'⟩ := ok_as hst
  have hfr := frames_ok (md := md') hd1 C.2.2.2.2.2.2.2.2.2.2.1 C.2.2.2.2.2.2.2.2.2.2.2.1 hm.2.2.2.1
  refine q_call (rest := st.map (cv b B)) (va_runSN (As := as.map (cv b B)) ⟨C.1, C.2.1, C.2.2.1, C.2.2.2.1, hts⟩ (hM l b B D ca hoas) ⟨va_cnB (host := host) n hts (good_wmo hm) rfl rfl rfl (C.2.2.2.2.2.2.2.1.2.1 _ hl) (hts _ hm.1) hm.2.2.1 hfr, hts _ hi, trivial⟩ (prc_S hH.1 hK C.2.2.2.2.2.2.2.1.2) rfl (by rw [List.length_map]; exact hn) (by show lc.size = _; rw [hL.1.1, hlen]) (by simp) (lv_room (by rw [st_cat]; exact hst8)) hd ⟨by rw [C.2.2.2.2.2.2.2.2.1]; exact h1, by rw [C.2.2.2.2.2.2.2.2.2.1]; exact h2⟩) hH.2 fun r h' H1 locs1 hrg hq hH1 => ?_
  have g := hq p l e R s m args below meth c b B D ca H1 locs1 lc Qw C hlen hH1 hL (ok_res hrg host') RH
  rw [res_map] at g
  exact g
theorem az_ref {b B i : Nat} : cv b B (.inr (some (i + 1))) = .ref (B + i) := rfl
/-- a constructor -/
theorem aw_invI {md' : MD} {idx n j : Nat} {as : List AV} (hd : decode md.2.1 pc = .ok (.invokespecial idx, 3)) (hm : MO md' n) (hret : md'.2.2.2.1 = none) (hi : Cond.instanceMethod md'.1 ∈ tbG) (hy1 : md'.1.name = "<init>") (hl : Cond.methodLink md.1.cls idx md'.1 ∈ tbG ∨ ∃ host, (md.1.cls, idx, md'.1, host) ∈ nsL) (hn : as.length = n) (hd1 : 1 ≤ d) (hst8 : st.length ≤ 8)
    (h1 : k.1 + md'.2.2.2.2.1 ≤ md.2.2.2.2.1) (h2 : k.2 + md'.2.2.2.2.2 ≤ md.2.2.2.2.2)
    (hM : AM (d - 1) md' (.inr (some (j + 1)) :: as) h (fun r h' => AW md d scr Q (pc + 3) ls ((r.map Sum.inl).toList ++ st) h' (k.1 + md'.2.2.2.2.1, k.2 + md'.2.2.2.2.2))) : AW md d scr Q pc ls (as.reverse ++ .inr (some (j + 1)) :: st) h k := by
  intro p l e R s m args below meth c b B D ca H locs lc Qw C hlen hH hL hst RH
  have hK := C.2.2.2.2.2.2.1
  have hts := C.2.2.2.2.1
  obtain ⟨hoas, host'⟩ := ok_as hst
  have hfr := frames_ok (md := md') hd1 C.2.2.2.2.2.2.2.2.2.2.1 C.2.2.2.2.2.2.2.2.2.2.2.1 hm.2.2.2.1
  have hcw : wmo md' = Cond.code md'.1 md'.2.1 md'.2.2.1 none :: tbG := by unfold wmo; rw [hret]
  have hfin : ∀ (hr : va_Run p l e R s m args below meth c H locs k.1 k.2 md'.2.2.2.2.1 md'.2.2.2.2.2 (F0 m pc lc ((as.reverse ++ .inr (some (j + 1)) :: st).map (cv b B))) (st.map (cv b B)) (Pst b B D ca (fun r h' => AW md d scr Q (pc + 3) ls ((r.map Sum.inl).toList ++ st) h' (k.1 + md'.2.2.2.2.1, k.2 + md'.2.2.2.2.2)) (Value.ref (B + j) :: as.map (cv b B)).toArray) (fun q => B ≤ q)), W p l e R s m args below meth c H locs k.1 k.2 Qw (F0 m pc lc ((as.reverse ++ .inr (some (j + 1)) :: st).map (cv b B))) := by
    intro hr
    refine q_call hr hH.2 fun r h' H1 locs1 hrg hq hH1 => ?_
    have g := hq p l e R s m args below meth c b B D ca H1 locs1 lc Qw C hlen hH1 hL (ok_res hrg (ok_tl host')) RH
    rw [res_map] at g
    exact g
  apply hfin
  have hM' := hM l b B D ca (ok_of trivial hoas)
  rw [hcw] at hM'
  have hG := good_wmo hm
  rw [hcw] at hG
  rcases hl with hl | ⟨host, hl⟩
  · exact va_runI (As := as.map (cv b B)) ⟨C.1, C.2.1, C.2.2.1, C.2.2.2.1, hts⟩ hM' (cwI n hts hG rfl rfl rfl (hts _ hm.1) (hts _ hl) (hts _ hi) hy1 hm.2.2.1 hfr) (prc_S (as := .inr (some (j + 1)) :: as) hH.1 hK C.2.2.2.2.2.2.2.1.2) rfl (by rw [List.length_map]; exact hn) (by show lc.size = _; rw [hL.1.1, hlen]) (by simp [cv, va_rf, az]) (lv_room (by rw [st_cat]; exact hst8)) hd ⟨by rw [C.2.2.2.2.2.2.2.2.1]; exact h1, by rw [C.2.2.2.2.2.2.2.2.2.1]; exact h2⟩
  · exact va_runIN (As := as.map (cv b B)) ⟨C.1, C.2.1, C.2.2.1, C.2.2.2.1, hts⟩ hM' ⟨va_cnB (host := host) n hts hG rfl rfl rfl (C.2.2.2.2.2.2.2.1.2.1 _ hl) (hts _ hm.1) hm.2.2.1 hfr, hy1, hts _ hi⟩ (prc_S (as := .inr (some (j + 1)) :: as) hH.1 hK C.2.2.2.2.2.2.2.1.2) rfl (by rw [List.length_map]; exact hn) (by show lc.size = _; rw [hL.1.1, hlen]) (by simp [cv, va_rf, az]) (lv_room (by rw [st_cat]; exact hst8)) hd ⟨by rw [C.2.2.2.2.2.2.2.2.1]; exact h1, by rw [C.2.2.2.2.2.2.2.2.2.1]; exact h2⟩
theorem aw_objInit {idx j : Nat} (hd : decode md.2.1 pc = .ok (.invokespecial idx, 3)) (hl : Cond.methodLink md.1.cls idx objectInit ∈ tbG) (hi : Cond.instanceMethod objectInit ∈ tbG) (hc : Cond.code objectInit ⟨#[0xb1]⟩ 1 none ∈ tbG) (hd1 : 1 ≤ d) (hst8 : st.length ≤ 8) (kk : AW md d scr Q (pc + 3) ls st h k) : AW md d scr Q pc ls (.inr (some (j + 1)) :: st) h k := by
  intro p l e R s m args below meth c b B D ca H locs lc Qw C hlen hH hL hst RH
  have hts := C.2.2.2.2.1
  have h10 := C.2.2.2.2.2.2.2.2.2.2.1
  have h11 := C.2.2.2.2.2.2.2.2.2.2.2.1
  refine W.objInit C.1 C.2.1 C.2.2.2.1 (hts _ hl) (hts _ hi) (hts _ hc) rfl (by show lc.size = _; rw [hL.1.1, hlen, C.2.2.1]) (rest := st.map (cv b B)) rfl hd (by omega) (by show 2 * 0 + _ + 12 ≤ _; rw [st_cat]; omega) ?_
  exact kk p l e R s m args below meth c b B D ca H locs lc Qw C hlen hH hL (ok_tl hst) RH
theorem aw_max {idx : Nat} {x y : Int} (hd : decode md.2.1 pc = .ok (.invokestatic idx, 3)) (hl : Cond.methodLink md.1.cls idx Lib.Math.max.name ∈ tbG) (hs : Cond.static Lib.Math.max.name ∈ tbG) (hi : Cond.initialized "java/lang/Math" ∈ tbG) (hc : Cond.code Lib.Math.max.name Lib.Math.max.code 2 (some .int) ∈ tbG) (hd1 : 1 ≤ d) (hst8 : st.length ≤ 8) (h1 : k.1 ≤ md.2.2.2.2.1) (h2 : k.2 ≤ md.2.2.2.2.2)
    (kk : AW md d scr Q (pc + 3) ls (.inl (if x < y then y else x) :: st) h k) : AW md d scr Q pc ls (.inl y :: .inl x :: st) h k := by
  intro p l e R s m args below meth c b B D ca H locs lc Qw C hlen hH hL hst RH
  have hts := C.2.2.2.2.1
  have h10 := C.2.2.2.2.2.2.2.2.2.2.1
  have h11 := C.2.2.2.2.2.2.2.2.2.2.2.1
  have hy : rg y := ok_hd hst
  have hx : rg x := ok_hd (ok_tl hst)
  refine va_mmax C.1 C.2.1 (by rw [hL.1.1, hlen, C.2.2.1]) C.2.2.2.1 (hts _ hl) (hts _ hs) (hts _ hi) (hts _ hc) (by omega) (by rw [st_cat]; omega) (by rw [C.2.2.2.2.2.2.2.2.1]; exact h1) (by rw [C.2.2.2.2.2.2.2.2.2.1]; exact h2) hd ?_
  have g := kk p l e R s m args below meth c b B D ca H locs lc Qw C hlen hH hL (ok_of (by split <;> assumption) (ok_tl (ok_tl hst))) RH
  have e1 : (if Int32.ofInt x < Int32.ofInt y then Int32.ofInt y else Int32.ofInt x) = Int32.ofInt (if x < y then y else x) := by
    by_cases q : x < y
    · rw [if_pos q, if_pos ((i_lt hx hy).mpr q)]
    · rw [if_neg q, if_neg (fun z => q ((i_lt hx hy).mp z))]
  rw [e1]
  exact g
theorem aw_min {idx : Nat} {x y : Int} (hd : decode md.2.1 pc = .ok (.invokestatic idx, 3)) (hl : Cond.methodLink md.1.cls idx Lib.Math.min.name ∈ tbG) (hs : Cond.static Lib.Math.min.name ∈ tbG) (hi : Cond.initialized "java/lang/Math" ∈ tbG) (hc : Cond.code Lib.Math.min.name Lib.Math.min.code 2 (some .int) ∈ tbG) (hd1 : 1 ≤ d) (hst8 : st.length ≤ 8) (h1 : k.1 ≤ md.2.2.2.2.1) (h2 : k.2 ≤ md.2.2.2.2.2)
    (kk : AW md d scr Q (pc + 3) ls (.inl (if y < x then y else x) :: st) h k) : AW md d scr Q pc ls (.inl y :: .inl x :: st) h k := by
  intro p l e R s m args below meth c b B D ca H locs lc Qw C hlen hH hL hst RH
  have hts := C.2.2.2.2.1
  have h10 := C.2.2.2.2.2.2.2.2.2.2.1
  have h11 := C.2.2.2.2.2.2.2.2.2.2.2.1
  have hy : rg y := ok_hd hst
  have hx : rg x := ok_hd (ok_tl hst)
  refine va_mmin C.1 C.2.1 (by rw [hL.1.1, hlen, C.2.2.1]) C.2.2.2.1 (hts _ hl) (hts _ hs) (hts _ hi) (hts _ hc) (by omega) (by rw [st_cat]; omega) (by rw [C.2.2.2.2.2.2.2.2.1]; exact h1) (by rw [C.2.2.2.2.2.2.2.2.2.1]; exact h2) hd ?_
  have g := kk p l e R s m args below meth c b B D ca H locs lc Qw C hlen hH hL (ok_of (by split <;> assumption) (ok_tl (ok_tl hst))) RH
  have e1 : (if Int32.ofInt y < Int32.ofInt x then Int32.ofInt y else Int32.ofInt x) = Int32.ofInt (if y < x then y else x) := by
    by_cases q : y < x
    · rw [if_pos q, if_pos ((i_lt hy hx).mpr q)]
    · rw [if_neg q, if_neg (fun z => q ((i_lt hy hx).mp z))]
  rw [e1]
  exact g
end MO
end
section
section BO
variable {md : MD} {d : Nat} {scr : Option (Nat × (Nat → Int))} {Q : Option Int → AH → Prop} {pc : Nat} {ls : List (Option AV)} {st : List AV} {h : AH} {k : Nat × Nat}
/-- a copied stretch of an array -/
def cpy (h : AH) (js jd : Nat) (sp dp n : Int) : AH := (h.1, h.2.1, h.2.2.1, fun a b => if a = jd ∧ dp ≤ b ∧ b < dp + n then h.2.2.2 js (sp + (b - dp)) else h.2.2.2 a b)
theorem hi_cpy {h : AH} {js jd : Nat} {sp dp n : Int} {a : Nat} {b : Int} : hi (cpy h js jd sp dp n) a b = if a = jd ∧ dp ≤ b ∧ b < dp + n then hi h js (sp + (b - dp)) else hi h a b := rfl
theorem hk_cpy {h : AH} {js jd : Nat} {sp dp n : Int} : hk (cpy h js jd sp dp n) = hk h := rfl
theorem hr_cpy {h : AH} {js jd : Nat} {sp dp n : Int} : hr (cpy h js jd sp dp n) = hr h := rfl
theorem aw_copy {idx js jd n0 n1 : Nat} {sp dp n : Int} (hd : decode md.2.1 pc = .ok (.invokestatic idx, 3)) (hl : Cond.methodLink md.1.cls idx arraycopyName ∈ tbG) (hnat : Cond.native arraycopyName ∈ tbG) (hs : Cond.static arraycopyName ∈ tbG) (hini : Cond.initialized "java/lang/System" ∈ tbG)
    (hx0 : hk h js = (1, n0)) (hx1 : hk h jd = (1, n1)) (h1 : 0 ≤ sp) (h2 : 0 ≤ dp) (h3 : 0 ≤ n) (h4 : sp + n ≤ n0) (h5 : dp + n ≤ n1) (hd1 : 1 ≤ d) (hst8 : st.length ≤ 8)
    (kk : AW md d scr Q (pc + 3) ls st (cpy h js jd sp dp n) k) : AW md d scr Q pc ls (.inl n :: .inl dp :: .inr (some jd) :: .inl sp :: .inr (some js) :: st) h k := by
  intro p l e R s m args below meth c b B D ca H locs lc Qw C hlen hH hL hst RH
  obtain ⟨⟨hsz, hP, ho⟩, hS⟩ := hH
  have hts := C.2.2.2.2.1
  have h10 := C.2.2.2.2.2.2.2.2.2.2.1
  have h11 := C.2.2.2.2.2.2.2.2.2.2.2.1
  obtain ⟨i0, rfl, hj0⟩ := okH_pos ho hx0 (by intro q; cases q)
  obtain ⟨i1, rfl, hj1⟩ := okH_pos ho hx1 (by intro q; cases q)
  have he0 := wso_at (b := b) (B := B) (ca := ca) hj0
  rw [enc_1 hx0] at he0
  have he1 := wso_at (b := b) (B := B) (ca := ca) hj1
  rw [enc_1 hx1] at he1
  have rn : rg n := ok_hd hst
  have rd : rg dp := ok_hd (ok_tl hst)
  have rs : rg sp := ok_hd (ok_tl (ok_tl (ok_tl hst)))
  have cn := cl_nat rn h3
  have cd := cl_nat rd h2
  have cs := cl_nat rs h1
  have hnw : nativeFrameWords "java/lang/System" "arraycopy" 5 ≤ 20 := by decide +kernel
  have hK := C.2.2.2.2.2.2.1
  intro T hT X
  have c0 : H[B + i0]? = some (vp_cell (ca 1) (n0, .inl fun q : Nat => Int32.ofInt (hi h (i0 + 1) q))) := hP i0 _ he0
  have c1 : H[B + i1]? = some (vp_cell (ca 1) (n1, .inl fun q : Nat => Int32.ofInt (hi h (i1 + 1) q))) := hP i1 _ he1
  obtain ⟨-, kA, hkA, cm, hkk⟩ := (hK.2 0 _ rfl).1 n0 (fun q => .int (Int32.ofInt (hi h (i0 + 1) q)))
  have tin : (Int32.ofInt n).toInt = n := ti rn
  have tis : (Int32.ofInt sp).toInt = sp := ti rs
  have tid : (Int32.ofInt dp).toInt = dp := ti rd
  obtain ⟨vm', X', step⟩ := X.arraycopy C.1 C.2.2.2.1 (hts _ hl) (hts _ hnat) (hts _ hs) (hts _ hini) (src := B + i0) (dst := B + i1) (cs := vp_cell (ca 1) (n0, .inl fun q : Nat => Int32.ofInt (hi h (i0 + 1) q))) (cd := vp_cell (ca 1) (n1, .inl fun q : Nat => Int32.ofInt (hi h (i1 + 1) q))) (srcPos := Int32.ofInt sp) (destPos := Int32.ofInt dp) (n := Int32.ofInt n) (by rw [hT]; exact c0) (by rw [hT]; exact c1)
    (fun _ z => by cases z) (fun _ z => by cases z) (fun z => by cases z) (fun z => by cases z) hkA hkA hkk hkk (by simp [refKind]) (fun q => by have := (i_lt rs rg0).mp q; omega) (fun q => by have := (i_lt rd rg0).mp q; omega) (fun q => by have := (i_lt rn rg0).mp q; omega)
    (by rw [tis, tin]; show ¬ _ > ((arrV (ca 1) n0 _).slots.size : Int); rw [arrV_size]; omega) (by rw [tid, tin]; show ¬ _ > ((arrV (ca 1) n1 _).slots.size : Int); rw [arrV_size]; omega)
    (fun vm₁ _ i hin => by
      have ee : (vp_cell (ca 1) (n0, .inl fun q : Nat => Int32.ofInt (hi h (i0 + 1) q))).slots.getD ((Int32.ofInt sp).toNatClampNeg + i) .null = .int (Int32.ofInt (hi h (i0 + 1) (((Int32.ofInt sp).toNatClampNeg + i : Nat) : Int))) := by
        show (arrV (ca 1) n0 _).slots.getD _ _ = _
        rw [Array.getD_eq_getD_getElem?, arrV_read _ _ (by rw [cn] at hin; omega)]
        rfl
      refine ⟨?_, ?_⟩
      · rw [ee]; rfl
      · rw [ee]; exact trivial)
    (g := F0 m pc lc (.int (Int32.ofInt n) :: .int (Int32.ofInt dp) :: .ref (B + i1) :: .int (Int32.ofInt sp) :: .ref (B + i0) :: st.map (cv b B))) rfl (by show lc.size = _; rw [hL.1.1, hlen, C.2.2.1]) (rest := st.map (cv b B)) rfl (by rw [C.2.1]; exact hd) (by omega) (by show 2 * 0 + _ + _ ≤ _; rw [st_cat]; omega)
  have e1 := va_copied (fun z : Int32 => Value.int z) (ca 1) (ca 1) (n0 := n0) (n1 := n1) (fun q : Nat => Int32.ofInt (hi h (i0 + 1) q)) (fun q : Nat => Int32.ofInt (hi h (i1 + 1) q)) (sp := (Int32.ofInt sp).toNatClampNeg) (dp := (Int32.ofInt dp).toNatClampNeg) (n := (Int32.ofInt n).toNatClampNeg) (by rw [cs, cn]; omega)
  have e2 : copied (vp_cell (ca 1) (n0, .inl fun q : Nat => Int32.ofInt (hi h (i0 + 1) q))) (vp_cell (ca 1) (n1, .inl fun q : Nat => Int32.ofInt (hi h (i1 + 1) q))) (Int32.ofInt sp) (Int32.ofInt dp) (Int32.ofInt n) = vp_cell (ca 1) (n1, .inl fun q : Nat => Int32.ofInt (hi (cpy h (i0 + 1) (i1 + 1) sp dp n) (i1 + 1) q)) := by
    refine Eq.trans e1 ?_
    rw [cs, cd, cn, vp_cell_i]
    congr 1
    funext q
    simp only [va_cpy, hi_cpy, true_and]
    by_cases hq : dp.toNat ≤ q ∧ q < dp.toNat + n.toNat
    · rw [if_pos hq, if_pos (by omega)]
      congr 3
      omega
    · rw [if_neg hq, if_neg (by omega)]
  rw [e2] at X' step
  have hl' : B + i1 < H.size := (Array.getElem?_eq_some_iff.mp c1).1
  generalize hN : vp_cell (ca 1) (n1, .inl fun q : Nat => Int32.ofInt (hi (cpy h (i0 + 1) (i1 + 1) sp dp n) (i1 + 1) q)) = new at X' step
  have hheap : ((T.setVm vm').setCell (B + i1) new).heap = H.setIfInBounds (B + i1) new := by rw [← hT]; rfl
  have hHR : HR b B D ca s.heap (cpy h (i0 + 1) (i1 + 1) sp dp n) (H.setIfInBounds (B + i1) new) (locs ++ [⟨B + i1, 0⟩]) :=
    HR_arr ⟨⟨hsz, hP, ho⟩, hS⟩ hj1 he1 rfl
      (fun x hx' => enc_cong rfl (fun _ => rfl) (fun q => by rw [hi_cpy, if_neg (fun z => hx' z.1)])) (enc_1 hx1)
      ⟨fun a z => by rw [hi_cpy]; split <;> exact ho.1 _ _, ho.2⟩ (by rw [hN]; simp [Array.getElem?_setIfInBounds, hl']) (by simp) (fun q hq => by simp [Array.getElem?_setIfInBounds, Ne.symm hq])
  obtain ⟨t, a1, b1⟩ := kk p l e R s m args below meth c b B D ca _ _ lc Qw C hlen
    ⟨hHR.1, hHR.2.1, hHR.2.2.1, fun q hq => by
      rcases List.mem_append.mp hq with g | g
      · exact hS.2.2 q g
      · obtain ⟨z, -, hz⟩ := List.mem_map.mp g
        rw [← hz]
        exact Nat.le_add_right B i1⟩ hL (ok_tl (ok_tl (ok_tl (ok_tl (ok_tl hst))))) RH _ hheap X'
  exact ⟨t, step t a1, b1⟩
theorem lpr_args {b B : Nat} : ∀ (as : List AV) (i : Nat), lv_args i (as.map (cv b B)) = lpr b B i (as.map some)
  | [], i => rfl
  | a :: t, i => by
    show (i, cv b B a) :: lv_args (if (cv b B a).category = 2 then i + 2 else i + 1) (t.map (cv b B)) = (i, cv b B a) :: lpr b B (i + 1) (t.map some)
    rw [if_neg (by rw [cv_cat]; decide), lpr_args t (i + 1)]
theorem lpr_app {b B : Nat} : ∀ (t u : List (Option AV)) (i : Nat), lpr b B i (t ++ u) = lpr b B i t ++ lpr b B (i + t.length) u
  | [], u, i => rfl
  | none :: t, u, i => by
    show lpr b B (i + 1) (t ++ u) = lpr b B (i + 1) t ++ lpr b B (i + (t.length + 1)) u
    rw [lpr_app t u (i + 1), show i + 1 + t.length = i + (t.length + 1) by omega]
  | some a :: t, u, i => by
    show (i, cv b B a) :: lpr b B (i + 1) (t ++ u) = (i, cv b B a) :: (lpr b B (i + 1) t ++ lpr b B (i + (t.length + 1)) u)
    rw [lpr_app t u (i + 1), show i + 1 + t.length = i + (t.length + 1) by omega]
theorem lpr_none {b B : Nat} : ∀ (n i : Nat), lpr b B i (List.replicate n none) = []
  | 0, i => rfl
  | n + 1, i => lpr_none n (i + 1)
theorem lg_sl_cv {b B : Nat} (as : List AV) : (lg_sl (as.map (cv b B))).length = as.length := by
  induction as with
  | nil => rfl
  | cons a t ih =>
    simp only [lg_sl, List.map_cons, List.flatMap_cons, cv_cat, List.length_append, List.length_cons] at ih ⊢
    simp at ih ⊢
    omega
theorem am_body {n : Nat} {as : List AV} (hm : MO md n) (hl : as.length ≤ md.2.2.1) (hB : AW md d none Q 0 (as.map some ++ List.replicate (md.2.2.1 - as.length) none) [] h (0, 0)) : AM d md as h Q := by
  intro l b B D ca has
  refine Met.ofW (cc := md.2.1) (maxL := md.2.2.1) (ret := md.2.2.2.1) hm.2.2.2.2 rfl ?_
  intro p e s m args below meth c s₁ BB hml hv
  obtain ⟨rfl, hHP, hK, hN⟩ := hv
  have hts := atoms_spec (ws := wmo md) BB.pre
  have hlocks := BB.notSynchronized
  have hent := lv_entry (as.map (cv b B)) (n := md.2.2.1) (by rw [lg_sl_cv]; exact hl)
  rw [lg_entry_eq]
  rw [lpr_args] at hent
  generalize (lg_sl (as.map (cv b B)) ++ List.replicate (md.2.2.1 - (lg_sl (as.map (cv b B))).length) Slot.unset).toArray = lc at hent ⊢
  have hlen : (as.map some ++ List.replicate (md.2.2.1 - as.length) (none : Option AV)).length = md.2.2.1 := by simp; omega
  have hLR : LR b B (as.map some ++ List.replicate (md.2.2.1 - as.length) none) lc := by
    refine ⟨?_, fun k v hk => ?_⟩
    · rw [lpr_app, lpr_none, List.append_nil, hlen]
      exact hent
    · rcases List.mem_append.mp (List.mem_of_getElem? hk) with q | q
      · obtain ⟨x, hx, hx2⟩ := List.mem_map.mp q
        cases hx2
        exact has _ hx
      · have := List.eq_of_mem_replicate q
        cases this
  refine hB p l e (rmo d md) s m _ below meth c b B D ca s.heap [] lc _ ⟨BB.exec, BB.bytes, hml, findClass_of_methodNamed BB.named, fun w hw => hts w (List.mem_cons_of_mem _ hw), (name_of_methodNamed BB.named BB.method).1, hK, ⟨by rw [hHP.1]; exact Nat.le_add_right _ _, hN⟩, rfl, rfl, Nat.le_refl _, Nat.le_refl _, fun q hq => by cases hq⟩ hlen ⟨hHP, va_S.rf⟩ hLR (fun _ hx => by cases hx) ?_
  intro r pc' h' H' locs' lc' k' hH' hQ hk1 hk2
  cases r with
  | none =>
    intro hret hd
    refine W.widen hk1 hk2 ?_
    have hfin : ∀ t : State, t.heap = H' → s.WarmedH t.vm → Pst b B D ca Q (as.map (cv b B)).toArray s (.returned none) t := fun t ht hW => ⟨⟨none, h', rfl, (fun _ q => by cases q), hQ, by rw [ht]; exact hH'.1⟩, hH'.2.F ht⟩
    exact W.vret BB.exec BB.bytes (BB.returns.trans hret) hfin hH'.2.2.2 hd
  | some v =>
    intro hret hd
    refine W.widen hk1 hk2 ?_
    have hfin : ∀ t : State, t.heap = H' → s.WarmedH t.vm → Pst b B D ca Q (as.map (cv b B)).toArray s (.returned (some (.int (Int32.ofInt v)))) t := fun t ht hW => ⟨⟨some v, h', rfl, fun _ q => by cases q; exact okr_rg hret, hQ, by rw [ht]; exact hH'.1⟩, hH'.2.F ht⟩
    cases hty : md.2.2.2.1 with
    | none => rw [hty] at hret; exact absurd hret (by simp [okr])
    | some ty =>
      rw [hty] at hret
      exact W.zret (ty := ty) BB.exec BB.bytes (BB.returns.trans hty) (nar_i hret b B).1 hfin hH'.2.2.2 hd
theorem am_mono {as : List AV} {Q' : Option Int → AH → Prop} (hA : AM d md as h Q) (hq : ∀ r h', (∀ v, r = some v → rg v) → okH h' → Q r h' → Q' r h') : AM d md as h Q' := by
  intro l b B D ca has p e ha hc hkk s m args below hf hfit hheap happ
  obtain ⟨n, o, h1, h2, h3, ⟨⟨r, h', e1, e2, e3, e4⟩, hF⟩, hfr⟩ := hA l b B D ca has p e ha hc hkk s m args below hf hfit hheap happ
  exact ⟨n, o, h1, h2, h3, ⟨⟨r, h', e1, e2, hq r h' e2 e4.2.2 e3, e4⟩, hF⟩, hfr⟩
theorem am_ok {as : List AV} (kk : okH h → (∀ a ∈ as, ok a) → AM d md as h Q) : AM d md as h Q := by
  intro l b B D ca has p e ha hc hkk s m args below hf hfit hheap happ
  exact kk hheap.2.1.2.2 has l b B D ca has p e ha hc hkk s m args below hf hfit hheap happ
end BO
end
section
section R2
variable {md : MD} {d : Nat} {scr : Option (Nat × (Nat → Int))} {Q : Option Int → AH → Prop} {pc : Nat} {ls : List (Option AV)} {st : List AV} {h : AH} {k : Nat × Nat}
theorem ax_geti {idx ci kf j : Nat} {v : Int} (hd : decode md.2.1 pc = .ok (.getfield idx, 3)) (hl : Cond.fieldLink md.1.cls idx (cU ci kf).1 (cU ci kf).2.1 (cU ci kf).2.2.1 ∈ tbG) (hkf : kf < cN ci) (hT : isR (cT ci kf) = false) (hx : hk h j = (0, ci)) (hv : hi h j kf = v)
    (kk : AW md d scr Q (pc + 3) ls (.inl v :: st) h k) : AW md d scr Q pc ls (.inr (some j) :: st) h k := by
  subst hv
  exact aw_geti hd hl hkf hT hx kk
theorem ax_iaload {j n : Nat} {x v : Int} (hd : decode md.2.1 pc = .ok (.iaload, 1)) (hx : hk h j = (1, n)) (h01 : 0 ≤ x ∧ x < (n : Int)) (hv : hi h j x = v) (kk : AW md d scr Q (pc + 1) ls (.inl v :: st) h k) : AW md d scr Q pc ls (.inl x :: .inr (some j) :: st) h k := by
  subst hv
  exact aw_iaload hd hx h01.1 h01.2 kk
theorem ax_baload {j n : Nat} {x v : Int} (hd : decode md.2.1 pc = .ok (.baload, 1)) (hx : hk h j = (2, n)) (h01 : 0 ≤ x ∧ x < (n : Int)) (hv : hi h j x = v) (kk : AW md d scr Q (pc + 1) ls (.inl v :: st) h k) : AW md d scr Q pc ls (.inl x :: .inr (some j) :: st) h k := by
  subst hv
  exact aw_baload hd hx h01.1 h01.2 kk
theorem ax_caload {j n : Nat} {x v : Int} (hd : decode md.2.1 pc = .ok (.caload, 1)) (hx : hk h j = (3, n)) (h01 : 0 ≤ x ∧ x < (n : Int)) (hv : hi h j x = v) (kk : AW md d scr Q (pc + 1) ls (.inl v :: st) h k) : AW md d scr Q pc ls (.inl x :: .inr (some j) :: st) h k := by
  subst hv
  exact aw_caload hd hx h01.1 h01.2 kk
theorem ax_aaload {j n : Nat} {x : Int} {r : Option Nat} (hd : decode md.2.1 pc = .ok (.aaload, 1)) (hx : hk h j = (4, n)) (h01 : 0 ≤ x ∧ x < (n : Int)) (hv : hr h j x = r) (kk : AW md d scr Q (pc + 1) ls (.inr r :: st) h k) : AW md d scr Q pc ls (.inl x :: .inr (some j) :: st) h k := by
  subst hv
  exact aw_aaload hd hx h01.1 h01.2 kk
theorem ax_istore {i : Nat} {v : Int} {ls' : List (Option AV)} (hd : decode md.2.1 pc = .ok (.istore i, 2)) (hi : i < ls.length) (hs : ls.set i (some (.inl v)) = ls') (kk : AW md d scr Q (pc + 2) ls' st h k) : AW md d scr Q pc ls (.inl v :: st) h k := by
  subst hs
  exact aw_istore hd hi kk
theorem ax_istore_n {i : Fin 4} {v : Int} {ls' : List (Option AV)} (hd : decode md.2.1 pc = .ok (.istore_n i, 1)) (hi : i.val < ls.length) (hs : ls.set i.val (some (.inl v)) = ls') (kk : AW md d scr Q (pc + 1) ls' st h k) : AW md d scr Q pc ls (.inl v :: st) h k := by
  subst hs
  exact aw_istore_n hd hi kk
theorem ax_astore {i : Nat} {r : Nat} {ls' : List (Option AV)} (hd : decode md.2.1 pc = .ok (.astore i, 2)) (hi : i < ls.length) (hs : ls.set i (some (.inr (some r))) = ls') (kk : AW md d scr Q (pc + 2) ls' st h k) : AW md d scr Q pc ls (.inr (some r) :: st) h k := by
  subst hs
  exact aw_astore hd hi kk
theorem ax_astore_n {i : Fin 4} {r : Nat} {ls' : List (Option AV)} (hd : decode md.2.1 pc = .ok (.astore_n i, 1)) (hi : i.val < ls.length) (hs : ls.set i.val (some (.inr (some r))) = ls') (kk : AW md d scr Q (pc + 1) ls' st h k) : AW md d scr Q pc ls (.inr (some r) :: st) h k := by
  subst hs
  exact aw_astore_n hd hi kk
theorem ax_iinc {i : Nat} {n v v' : Int} {ls' : List (Option AV)} (hd : decode md.2.1 pc = .ok (.iinc i n, 3)) (hl : ls[i]? = some (some (.inl v))) (hn : rg (v + n)) (hv : v + n = v') (hs : ls.set i (some (.inl v')) = ls') (kk : AW md d scr Q (pc + 3) ls' st h k) : AW md d scr Q pc ls st h k := by
  subst hs hv
  exact aw_iinc hd hl hn kk
theorem ax_iadd {x y v : Int} (hd : decode md.2.1 pc = .ok (.iadd, 1)) (hn : rg (x + y)) (hv : x + y = v) (kk : AW md d scr Q (pc + 1) ls (.inl v :: st) h k) : AW md d scr Q pc ls (.inl y :: .inl x :: st) h k := by subst hv; exact aw_iadd hd hn kk
theorem ax_isub {x y v : Int} (hd : decode md.2.1 pc = .ok (.isub, 1)) (hn : rg (x - y)) (hv : x - y = v) (kk : AW md d scr Q (pc + 1) ls (.inl v :: st) h k) : AW md d scr Q pc ls (.inl y :: .inl x :: st) h k := by subst hv; exact aw_isub hd hn kk
theorem ax_imul {x y v : Int} (hd : decode md.2.1 pc = .ok (.imul, 1)) (hn : rg (x * y)) (hv : x * y = v) (kk : AW md d scr Q (pc + 1) ls (.inl v :: st) h k) : AW md d scr Q pc ls (.inl y :: .inl x :: st) h k := by subst hv; exact aw_imul hd hn kk
/-- fewer locals are known -/
theorem aw_forget {ls' : List (Option AV)} (hlen : ls'.length = ls.length) (hs : ∀ (i : Nat) (v : AV), ls'[i]? = some (some v) → ls[i]? = some (some v)) (kk : AW md d scr Q pc ls' st h k) : AW md d scr Q pc ls st h k := by
  intro p l e R s m args below meth c b B D ca H locs lc Qw C hlen' hH hL hst RH
  refine kk p l e R s m args below meth c b B D ca H locs lc Qw C (hlen.trans hlen') hH ⟨⟨hL.1.1.trans hlen.symm, hL.1.2.1, fun q hq => ?_⟩, fun i v hi => hL.2 i v (hs i v hi)⟩ hst RH
  obtain ⟨i, v, h1, h2⟩ := lpr_mem' _ _ _ hq
  rw [h2, Nat.zero_add]
  exact hL.get (hs i v h1)
def subl : List (Option AV) → List (Option AV) → Prop
  | [], [] => True
  | none :: t, _ :: u => subl t u
  | some v :: t, w :: u => w = some v ∧ subl t u
  | _, _ => False
theorem subl_ok : ∀ (t u : List (Option AV)), subl t u → t.length = u.length ∧ ∀ (i : Nat) (v : AV), t[i]? = some (some v) → u[i]? = some (some v)
  | [], [], _ => ⟨rfl, fun i v hi => by simp at hi⟩
  | none :: t, x :: u, hs => by
    obtain ⟨h1, h2⟩ := subl_ok t u hs
    refine ⟨by simp [h1], fun i v hi => ?_⟩
    cases i with
    | zero => simp at hi
    | succ i => exact h2 i v (by simpa using hi)
  | some v :: t, x :: u, hs => by
    obtain ⟨h1, h2⟩ := subl_ok t u hs.2
    refine ⟨by simp [h1], fun i y hi => ?_⟩
    cases i with
    | zero => rw [hs.1]; exact hi
    | succ i => exact h2 i y (by simpa using hi)
theorem aw_fewer {ls' : List (Option AV)} (hs : subl ls' ls) (kk : AW md d scr Q pc ls' st h k) : AW md d scr Q pc ls st h k := aw_forget (subl_ok _ _ hs).1 (subl_ok _ _ hs).2 kk
end R2
end
section
abbrev m_X0_init : MD := (yX0_init, cX0_init, 2, none, (49, 1388))
abbrev m_X0_states : MD := (yX0_states, cX0_states, 1, some .int, (0, 0))
abbrev m_X0_add : MD := (yX0_add, cX0_add, 2, none, (0, 0))
abbrev m_X0_dropOldest : MD := (yX0_dropOldest, cX0_dropOldest, 3, none, (0, 0))
abbrev m_X0_backTo : MD := (yX0_backTo, cX0_backTo, 2, some .int, (0, 0))
abbrev m_X1_init : MD := (yX1_init, cX1_init, 1, none, (6, 120))
abbrev m_X1_copyFrom : MD := (yX1_copyFrom, cX1_copyFrom, 3, none, (0, 0))
abbrev m_X1_cards : MD := (yX1_cards, cX1_cards, 1, some .int, (0, 0))
abbrev m_X1_isCard : MD := (yX1_isCard, cX1_isCard, 2, some .boolean, (0, 0))
abbrev m_X1_placeOf : MD := (yX1_placeOf, cX1_placeOf, 3, some .int, (0, 0))
abbrev m_X1_nameAt : MD := (yX1_nameAt, cX1_nameAt, 2, some .int, (0, 0))
abbrev m_X1_isAwake : MD := (yX1_isAwake, cX1_isAwake, 2, some .boolean, (0, 0))
abbrev m_X1_asksToGo : MD := (yX1_asksToGo, cX1_asksToGo, 2, some .int, (0, 0))
abbrev m_X1_tellings : MD := (yX1_tellings, cX1_tellings, 2, some .int, (0, 0))
abbrev m_X1_sharedBits : MD := (yX1_sharedBits, cX1_sharedBits, 4, some .int, (0, 0))
abbrev m_X1_awakeCards : MD := (yX1_awakeCards, cX1_awakeCards, 1, some .int, (0, 0))
abbrev m_X1_awakeWith : MD := (yX1_awakeWith, cX1_awakeWith, 5, some .int, (0, 0))
abbrev m_X1_leavingCards : MD := (yX1_leavingCards, cX1_leavingCards, 3, some .int, (0, 0))
abbrev m_X1_insert : MD := (yX1_insert, cX1_insert, 3, none, (0, 0))
abbrev m_X1_removeAt : MD := (yX1_removeAt, cX1_removeAt, 3, none, (0, 0))
abbrev m_X1_moveCard : MD := (yX1_moveCard, cX1_moveCard, 3, none, (0, 0))
abbrev m_X1_sleepAt : MD := (yX1_sleepAt, cX1_sleepAt, 2, none, (0, 0))
abbrev m_X1_wakeEach : MD := (yX1_wakeEach, cX1_wakeEach, 2, none, (0, 0))
abbrev m_X1_leaveAt : MD := (yX1_leaveAt, cX1_leaveAt, 3, none, (0, 0))
abbrev m_X1_tellAt : MD := (yX1_tellAt, cX1_tellAt, 2, none, (0, 0))
abbrev m_X1_slotAt : MD := (yX1_slotAt, cX1_slotAt, 3, none, (0, 0))
abbrev m_X1_letAnswer : MD := (yX1_letAnswer, cX1_letAnswer, 4, none, (0, 0))
abbrev m_X1_letAnswerIn : MD := (yX1_letAnswerIn, cX1_letAnswerIn, 3, none, (0, 0))
abbrev m_X1_firstAnswering : MD := (yX1_firstAnswering, cX1_firstAnswering, 2, some .int, (0, 0))
abbrev m_X1_differencesFrom : MD := (yX1_differencesFrom, cX1_differencesFrom, 4, some .int, (0, 0))
abbrev m_X1_passAsk : MD := (yX1_passAsk, cX1_passAsk, 4, some .int, (0, 0))
abbrev m_X2_init : MD := (yX2_init, cX2_init, 1, none, (11, 339))
abbrev m_X2_copyFrom : MD := (yX2_copyFrom, cX2_copyFrom, 2, none, (0, 0))
abbrev m_X2_putCard : MD := (yX2_putCard, cX2_putCard, 2, some .int, (0, 0))
abbrev m_X2_takeCard : MD := (yX2_takeCard, cX2_takeCard, 3, some .int, (0, 0))
abbrev m_X2_sleepCard : MD := (yX2_sleepCard, cX2_sleepCard, 3, some .int, (0, 0))
abbrev m_X2_wakeCards : MD := (yX2_wakeCards, cX2_wakeCards, 2, some .int, (0, 0))
abbrev m_X2_leaveBehind : MD := (yX2_leaveBehind, cX2_leaveBehind, 5, some .int, (0, 0))
abbrev m_X2_setTo : MD := (yX2_setTo, cX2_setTo, 5, some .int, (0, 0))
abbrev m_X2_valueOf : MD := (yX2_valueOf, cX2_valueOf, 2, some .int, (0, 0))
abbrev m_X2_shuffleTo : MD := (yX2_shuffleTo, cX2_shuffleTo, 3, some .int, (0, 0))
abbrev m_X2_forgetTold : MD := (yX2_forgetTold, cX2_forgetTold, 2, some .int, (0, 0))
abbrev m_X2_askFor : MD := (yX2_askFor, cX2_askFor, 4, some .int, (0, 0))
abbrev m_X2_hear : MD := (yX2_hear, cX2_hear, 4, some .int, (0, 0))
abbrev m_X2_makeWalk : MD := (yX2_makeWalk, cX2_makeWalk, 3, some .int, (0, 0))
abbrev m_X2_walkFrom : MD := (yX2_walkFrom, cX2_walkFrom, 7, none, (0, 0))
abbrev m_X2_makeFrame : MD := (yX2_makeFrame, cX2_makeFrame, 5, some .int, (0, 0))
abbrev m_X2_drawSlots : MD := (yX2_drawSlots, cX2_drawSlots, 4, none, (0, 0))
abbrev m_X2_draw : MD := (yX2_draw, cX2_draw, 2, some .int, (0, 0))
abbrev m_X2_makeRounds : MD := (yX2_makeRounds, cX2_makeRounds, 6, some .int, (0, 0))
abbrev m_X2_nextSize : MD := (yX2_nextSize, cX2_nextSize, 5, some .int, (0, 0))
abbrev m_X2_carryOut : MD := (yX2_carryOut, cX2_carryOut, 3, some .int, (0, 0))
abbrev m_X3_init : MD := (yX3_init, cX3_init, 1, none, (0, 0))
abbrev m_X3_copyFrom : MD := (yX3_copyFrom, cX3_copyFrom, 2, none, (0, 0))
abbrev m_X3_numberOf : MD := (yX3_numberOf, cX3_numberOf, 2, some .int, (0, 0))
abbrev m_X4_init : MD := (yX4_init, cX4_init, 1, none, (3, 120))
abbrev m_X4_length : MD := (yX4_length, cX4_length, 1, some .int, (0, 0))
abbrev m_X4_append : MD := (yX4_append, cX4_append, 2, some .int, (0, 0))
abbrev m_X4_empty : MD := (yX4_empty, cX4_empty, 2, some .int, (0, 0))
abbrev m_X4_orders : MD := (yX4_orders, cX4_orders, 1, some .int, (0, 0))
abbrev m_X4_kindAt : MD := (yX4_kindAt, cX4_kindAt, 2, some .char, (0, 0))
abbrev m_X4_numberAt : MD := (yX4_numberAt, cX4_numberAt, 2, some .int, (0, 0))
abbrev m_X4_readOrders : MD := (yX4_readOrders, cX4_readOrders, 2, some .int, (0, 0))
abbrev m_X4_readOrder : MD := (yX4_readOrder, cX4_readOrder, 5, some .boolean, (0, 0))
abbrev m_X4_readNumber : MD := (yX4_readNumber, cX4_readNumber, 6, some .boolean, (0, 0))
abbrev m_X4_digitAt : MD := (yX4_digitAt, cX4_digitAt, 3, some .int, (0, 0))
abbrev m_X4_characterAt : MD := (yX4_characterAt, cX4_characterAt, 3, some .char, (0, 0))
abbrev m_X5_init : MD := (yX5_init, cX5_init, 1, none, (1, 200))
abbrev m_X5_copyFrom : MD := (yX5_copyFrom, cX5_copyFrom, 2, none, (0, 0))
abbrev m_X5_names : MD := (yX5_names, cX5_names, 1, some .int, (0, 0))
abbrev m_X5_nameAt : MD := (yX5_nameAt, cX5_nameAt, 2, some .int, (0, 0))
abbrev m_X5_add : MD := (yX5_add, cX5_add, 2, none, (0, 0))
abbrev m_X5_empty : MD := (yX5_empty, cX5_empty, 1, none, (0, 0))
abbrev m_X6_init : MD := (yX6_init, cX6_init, 1, none, (102, 2901))
abbrev m_X6_put : MD := (yX6_put, cX6_put, 2, some .int, (0, 0))
abbrev m_X6_take : MD := (yX6_take, cX6_take, 2, some .int, (0, 0))
abbrev m_X6_sleep : MD := (yX6_sleep, cX6_sleep, 2, some .int, (0, 0))
abbrev m_X6_wakeAll : MD := (yX6_wakeAll, cX6_wakeAll, 1, some .int, (0, 0))
abbrev m_X6_leave : MD := (yX6_leave, cX6_leave, 3, some .int, (0, 0))
abbrev m_X6_set : MD := (yX6_set, cX6_set, 3, some .int, (0, 0))
abbrev m_X6_shuffle : MD := (yX6_shuffle, cX6_shuffle, 2, some .int, (0, 0))
abbrev m_X6_forget : MD := (yX6_forget, cX6_forget, 1, some .int, (0, 0))
abbrev m_X6_ask : MD := (yX6_ask, cX6_ask, 3, some .int, (0, 0))
abbrev m_X6_walk : MD := (yX6_walk, cX6_walk, 2, some .int, (0, 0))
abbrev m_X6_frame : MD := (yX6_frame, cX6_frame, 2, some .int, (0, 0))
abbrev m_X6_rounds : MD := (yX6_rounds, cX6_rounds, 2, some .int, (0, 0))
abbrev m_X6_type : MD := (yX6_type, cX6_type, 2, some .int, (0, 0))
abbrev m_X6_clearText : MD := (yX6_clearText, cX6_clearText, 1, some .int, (0, 0))
abbrev m_X6_perform : MD := (yX6_perform, cX6_perform, 5, some .int, (0, 0))
abbrev m_X6_undo : MD := (yX6_undo, cX6_undo, 1, some .int, (0, 0))
abbrev m_X6_keep : MD := (yX6_keep, cX6_keep, 1, some .int, (0, 0))
abbrev m_X6_restore : MD := (yX6_restore, cX6_restore, 1, some .int, (0, 0))
abbrev m_X6_card : MD := (yX6_card, cX6_card, 2, some .int, (0, 0))
abbrev m_X6_ofCard : MD := (yX6_ofCard, cX6_ofCard, 5, some .int, (0, 0))
abbrev m_X6_told : MD := (yX6_told, cX6_told, 2, some .int, (0, 0))
abbrev m_X6_total : MD := (yX6_total, cX6_total, 2, some .int, (0, 0))
abbrev m_X6_count : MD := (yX6_count, cX6_count, 3, some .int, (0, 0))
abbrev m_X6_walkTakes : MD := (yX6_walkTakes, cX6_walkTakes, 4, some .int, (0, 0))
abbrev m_X6_roundsTake : MD := (yX6_roundsTake, cX6_roundsTake, 4, some .int, (0, 0))
abbrev m_X6_bestFrame : MD := (yX6_bestFrame, cX6_bestFrame, 7, some .int, (0, 0))
abbrev m_X6_thickest : MD := (yX6_thickest, cX6_thickest, 6, some .int, (0, 0))
abbrev m_X6_recorded : MD := (yX6_recorded, cX6_recorded, 2, some .int, (0, 0))
abbrev m_X6_isBeginning : MD := (yX6_isBeginning, cX6_isBeginning, 2, some .boolean, (0, 0))
abbrev m_X6_isFrameSize : MD := (yX6_isFrameSize, cX6_isFrameSize, 1, some .boolean, (0, 0))
abbrev m_X6_firstBits : MD := (yX6_firstBits, cX6_firstBits, 2, some .int, (0, 0))
abbrev m_X6_firstOne : MD := (yX6_firstOne, cX6_firstOne, 2, some .int, (0, 0))
abbrev m_X7_init : MD := (yX7_init, cX7_init, 1, none, (10, 2233))
abbrev m_X7_in : MD := (yX7_in, cX7_in, 3, some .boolean, (0, 0))
abbrev m_X7_of : MD := (yX7_of, cX7_of, 3, some .int, (0, 0))
abbrev m_X7_lay : MD := (yX7_lay, cX7_lay, 4, none, (0, 0))
abbrev m_X7_cardWith : MD := (yX7_cardWith, cX7_cardWith, 4, some .int, (0, 0))
abbrev m_X7_copyState : MD := (yX7_copyState, cX7_copyState, 5, none, (0, 0))
abbrev m_X7_recordRow : MD := (yX7_recordRow, cX7_recordRow, 3, none, (0, 0))
abbrev m_X7_record : MD := (yX7_record, cX7_record, 1, none, (0, 0))
abbrev m_X7_undo : MD := (yX7_undo, cX7_undo, 1, some .int, (0, 0))
abbrev m_X7_keep : MD := (yX7_keep, cX7_keep, 1, some .int, (0, 0))
abbrev m_X7_restore : MD := (yX7_restore, cX7_restore, 1, some .int, (0, 0))
abbrev m_X7_whyNotPut : MD := (yX7_whyNotPut, cX7_whyNotPut, 2, some .int, (0, 0))
abbrev m_X7_putNow : MD := (yX7_putNow, cX7_putNow, 4, none, (0, 0))
abbrev m_X7_takeNow : MD := (yX7_takeNow, cX7_takeNow, 3, none, (0, 0))
abbrev m_X7_put : MD := (yX7_put, cX7_put, 3, some .int, (0, 0))
abbrev m_X7_take : MD := (yX7_take, cX7_take, 3, some .int, (0, 0))
abbrev m_X7_awake : MD := (yX7_awake, cX7_awake, 3, some .int, (0, 0))
abbrev m_X7_sleep : MD := (yX7_sleep, cX7_sleep, 3, some .int, (0, 0))
abbrev m_X7_wakeNow : MD := (yX7_wakeNow, cX7_wakeNow, 2, none, (0, 0))
abbrev m_X7_wakeAll : MD := (yX7_wakeAll, cX7_wakeAll, 2, some .int, (0, 0))
abbrev m_X7_leave : MD := (yX7_leave, cX7_leave, 5, some .int, (0, 0))
abbrev m_X7_set : MD := (yX7_set, cX7_set, 4, some .int, (0, 0))
abbrev m_X7_shuffle : MD := (yX7_shuffle, cX7_shuffle, 3, some .int, (0, 0))
abbrev m_X7_forget : MD := (yX7_forget, cX7_forget, 2, some .int, (0, 0))
abbrev m_X7_tell : MD := (yX7_tell, cX7_tell, 3, none, (0, 0))
abbrev m_X7_letGo : MD := (yX7_letGo, cX7_letGo, 2, none, (0, 0))
abbrev m_X7_begins : MD := (yX7_begins, cX7_begins, 3, some .boolean, (0, 0))
abbrev m_X7_noAnswer : MD := (yX7_noAnswer, cX7_noAnswer, 1, none, (0, 0))
abbrev m_X7_answers : MD := (yX7_answers, cX7_answers, 2, none, (0, 0))
abbrev m_X7_clashBit : MD := (yX7_clashBit, cX7_clashBit, 2, some .int, (0, 0))
abbrev m_X7_answer : MD := (yX7_answer, cX7_answer, 2, some .int, (0, 0))
abbrev m_X7_askNow : MD := (yX7_askNow, cX7_askNow, 4, some .int, (0, 0))
abbrev m_X7_isBeginning : MD := (yX7_isBeginning, cX7_isBeginning, 2, some .boolean, (0, 0))
abbrev m_X7_ask : MD := (yX7_ask, cX7_ask, 3, some .int, (0, 0))
abbrev m_X7_walkNow : MD := (yX7_walkNow, cX7_walkNow, 8, none, (0, 0))
abbrev m_X7_walk : MD := (yX7_walk, cX7_walk, 3, some .int, (0, 0))
abbrev m_X7_draw : MD := (yX7_draw, cX7_draw, 2, some .int, (0, 0))
abbrev m_X7_frameNow : MD := (yX7_frameNow, cX7_frameNow, 6, none, (0, 0))
abbrev m_X7_isSlots : MD := (yX7_isSlots, cX7_isSlots, 1, some .boolean, (0, 0))
abbrev m_X7_frame : MD := (yX7_frame, cX7_frame, 3, some .int, (0, 0))
abbrev m_X7_nextSize : MD := (yX7_nextSize, cX7_nextSize, 5, some .int, (0, 0))
abbrev m_X7_roundsNow : MD := (yX7_roundsNow, cX7_roundsNow, 7, some .int, (0, 0))
abbrev m_X7_rounds : MD := (yX7_rounds, cX7_rounds, 2, some .int, (0, 0))
abbrev m_X7_type : MD := (yX7_type, cX7_type, 2, some .int, (0, 0))
abbrev m_X7_clearText : MD := (yX7_clearText, cX7_clearText, 2, some .int, (0, 0))
abbrev m_X7_sees : MD := (yX7_sees, cX7_sees, 3, some .boolean, (0, 0))
abbrev m_X7_takes : MD := (yX7_takes, cX7_takes, 3, some .boolean, (0, 0))
abbrev m_X7_number : MD := (yX7_number, cX7_number, 4, some .int, (0, 0))
abbrev m_X7_readOrder : MD := (yX7_readOrder, cX7_readOrder, 4, some .boolean, (0, 0))
abbrev m_X7_readText : MD := (yX7_readText, cX7_readText, 2, some .boolean, (0, 0))
abbrev m_X7_whyNot : MD := (yX7_whyNot, cX7_whyNot, 3, some .int, (0, 0))
abbrev m_X7_carryOut : MD := (yX7_carryOut, cX7_carryOut, 3, none, (0, 0))
abbrev m_X7_perform : MD := (yX7_perform, cX7_perform, 3, some .int, (0, 0))
abbrev m_X7_card : MD := (yX7_card, cX7_card, 2, some .int, (0, 0))
abbrev m_X7_shares : MD := (yX7_shares, cX7_shares, 5, some .int, (0, 0))
abbrev m_X7_ofCard : MD := (yX7_ofCard, cX7_ofCard, 4, some .int, (0, 0))
abbrev m_X7_told : MD := (yX7_told, cX7_told, 2, some .int, (0, 0))
abbrev m_X7_leaving : MD := (yX7_leaving, cX7_leaving, 3, some .int, (0, 0))
abbrev m_X7_total : MD := (yX7_total, cX7_total, 2, some .int, (0, 0))
abbrev m_X7_withBeginning : MD := (yX7_withBeginning, cX7_withBeginning, 5, some .int, (0, 0))
abbrev m_X7_count : MD := (yX7_count, cX7_count, 3, some .int, (0, 0))
abbrev m_X7_walkTakes : MD := (yX7_walkTakes, cX7_walkTakes, 5, some .int, (0, 0))
abbrev m_X7_roundsTake : MD := (yX7_roundsTake, cX7_roundsTake, 5, some .int, (0, 0))
abbrev m_X7_bestFrame : MD := (yX7_bestFrame, cX7_bestFrame, 8, some .int, (0, 0))
abbrev m_X7_thickest : MD := (yX7_thickest, cX7_thickest, 6, some .int, (0, 0))
abbrev m_L_law : MD := (yL_law, cL_law, 4, some .boolean, (600000, 7302249))
theorem mo_X0_init : MO m_X0_init 0 := ⟨mg 50 (by decide +kernel) (by decide +kernel), mg 187 (by decide +kernel) (by decide +kernel), ⟨by decide +kernel, by decide +kernel, by decide +kernel⟩, by decide, by decide +kernel⟩
theorem im_X0_init : Cond.instanceMethod yX0_init ∈ tbG := mg 186 (by decide +kernel) (by decide +kernel)
theorem mo_X0_states : MO m_X0_states 0 := ⟨mg 50 (by decide +kernel) (by decide +kernel), mg 644 (by decide +kernel) (by decide +kernel), ⟨by decide +kernel, by decide +kernel, by decide +kernel⟩, by decide, by decide +kernel⟩
theorem im_X0_states : Cond.instanceMethod yX0_states ∈ tbG := mg 642 (by decide +kernel) (by decide +kernel)
theorem se_X0_states : Cond.selects yX0_states.cls yX0_states yX0_states ∈ tbG := mg 643 (by decide +kernel) (by decide +kernel)
theorem mo_X0_add : MO m_X0_add 1 := ⟨mg 50 (by decide +kernel) (by decide +kernel), mg 301 (by decide +kernel) (by decide +kernel), ⟨by decide +kernel, by decide +kernel, by decide +kernel⟩, by decide, by decide +kernel⟩
theorem im_X0_add : Cond.instanceMethod yX0_add ∈ tbG := mg 299 (by decide +kernel) (by decide +kernel)
theorem se_X0_add : Cond.selects yX0_add.cls yX0_add yX0_add ∈ tbG := mg 300 (by decide +kernel) (by decide +kernel)
theorem mo_X0_dropOldest : MO m_X0_dropOldest 0 := ⟨mg 50 (by decide +kernel) (by decide +kernel), mg 305 (by decide +kernel) (by decide +kernel), ⟨by decide +kernel, by decide +kernel, by decide +kernel⟩, by decide, by decide +kernel⟩
theorem im_X0_dropOldest : Cond.instanceMethod yX0_dropOldest ∈ tbG := mg 304 (by decide +kernel) (by decide +kernel)
theorem se_X0_dropOldest : Cond.selects yX0_dropOldest.cls yX0_dropOldest yX0_dropOldest ∈ tbG := mg 2 (by decide +kernel) (by decide +kernel)
theorem mo_X0_backTo : MO m_X0_backTo 1 := ⟨mg 50 (by decide +kernel) (by decide +kernel), mg 587 (by decide +kernel) (by decide +kernel), ⟨by decide +kernel, by decide +kernel, by decide +kernel⟩, by decide, by decide +kernel⟩
theorem im_X0_backTo : Cond.instanceMethod yX0_backTo ∈ tbG := mg 585 (by decide +kernel) (by decide +kernel)
theorem se_X0_backTo : Cond.selects yX0_backTo.cls yX0_backTo yX0_backTo ∈ tbG := mg 586 (by decide +kernel) (by decide +kernel)
theorem mo_X1_init : MO m_X1_init 0 := ⟨mg 47 (by decide +kernel) (by decide +kernel), mg 73 (by decide +kernel) (by decide +kernel), ⟨by decide +kernel, by decide +kernel, by decide +kernel⟩, by decide, by decide +kernel⟩
theorem im_X1_init : Cond.instanceMethod yX1_init ∈ tbG := mg 72 (by decide +kernel) (by decide +kernel)
theorem mo_X1_copyFrom : MO m_X1_copyFrom 1 := ⟨mg 47 (by decide +kernel) (by decide +kernel), mg 261 (by decide +kernel) (by decide +kernel), ⟨by decide +kernel, by decide +kernel, by decide +kernel⟩, by decide, by decide +kernel⟩
theorem im_X1_copyFrom : Cond.instanceMethod yX1_copyFrom ∈ tbG := mg 259 (by decide +kernel) (by decide +kernel)
theorem se_X1_copyFrom : Cond.selects yX1_copyFrom.cls yX1_copyFrom yX1_copyFrom ∈ tbG := mg 260 (by decide +kernel) (by decide +kernel)
theorem mo_X1_cards : MO m_X1_cards 0 := ⟨mg 47 (by decide +kernel) (by decide +kernel), mg 285 (by decide +kernel) (by decide +kernel), ⟨by decide +kernel, by decide +kernel, by decide +kernel⟩, by decide, by decide +kernel⟩
theorem im_X1_cards : Cond.instanceMethod yX1_cards ∈ tbG := mg 283 (by decide +kernel) (by decide +kernel)
theorem se_X1_cards : Cond.selects yX1_cards.cls yX1_cards yX1_cards ∈ tbG := mg 284 (by decide +kernel) (by decide +kernel)
theorem mo_X1_isCard : MO m_X1_isCard 1 := ⟨mg 47 (by decide +kernel) (by decide +kernel), mg 322 (by decide +kernel) (by decide +kernel), ⟨by decide +kernel, by decide +kernel, by decide +kernel⟩, by decide, by decide +kernel⟩
theorem im_X1_isCard : Cond.instanceMethod yX1_isCard ∈ tbG := mg 321 (by decide +kernel) (by decide +kernel)
theorem se_X1_isCard : Cond.selects yX1_isCard.cls yX1_isCard yX1_isCard ∈ tbG := mg 3 (by decide +kernel) (by decide +kernel)
theorem mo_X1_placeOf : MO m_X1_placeOf 1 := ⟨mg 47 (by decide +kernel) (by decide +kernel), mg 281 (by decide +kernel) (by decide +kernel), ⟨by decide +kernel, by decide +kernel, by decide +kernel⟩, by decide, by decide +kernel⟩
theorem im_X1_placeOf : Cond.instanceMethod yX1_placeOf ∈ tbG := mg 279 (by decide +kernel) (by decide +kernel)
theorem se_X1_placeOf : Cond.selects yX1_placeOf.cls yX1_placeOf yX1_placeOf ∈ tbG := mg 280 (by decide +kernel) (by decide +kernel)
theorem mo_X1_nameAt : MO m_X1_nameAt 1 := ⟨mg 47 (by decide +kernel) (by decide +kernel), mg 436 (by decide +kernel) (by decide +kernel), ⟨by decide +kernel, by decide +kernel, by decide +kernel⟩, by decide, by decide +kernel⟩
theorem im_X1_nameAt : Cond.instanceMethod yX1_nameAt ∈ tbG := mg 434 (by decide +kernel) (by decide +kernel)
theorem se_X1_nameAt : Cond.selects yX1_nameAt.cls yX1_nameAt yX1_nameAt ∈ tbG := mg 435 (by decide +kernel) (by decide +kernel)
theorem mo_X1_isAwake : MO m_X1_isAwake 1 := ⟨mg 47 (by decide +kernel) (by decide +kernel), mg 334 (by decide +kernel) (by decide +kernel), ⟨by decide +kernel, by decide +kernel, by decide +kernel⟩, by decide, by decide +kernel⟩
theorem im_X1_isAwake : Cond.instanceMethod yX1_isAwake ∈ tbG := mg 332 (by decide +kernel) (by decide +kernel)
theorem se_X1_isAwake : Cond.selects yX1_isAwake.cls yX1_isAwake yX1_isAwake ∈ tbG := mg 333 (by decide +kernel) (by decide +kernel)
theorem mo_X1_asksToGo : MO m_X1_asksToGo 1 := ⟨mg 47 (by decide +kernel) (by decide +kernel), mg 373 (by decide +kernel) (by decide +kernel), ⟨by decide +kernel, by decide +kernel, by decide +kernel⟩, by decide, by decide +kernel⟩
theorem im_X1_asksToGo : Cond.instanceMethod yX1_asksToGo ∈ tbG := mg 371 (by decide +kernel) (by decide +kernel)
theorem se_X1_asksToGo : Cond.selects yX1_asksToGo.cls yX1_asksToGo yX1_asksToGo ∈ tbG := mg 372 (by decide +kernel) (by decide +kernel)
theorem mo_X1_tellings : MO m_X1_tellings 1 := ⟨mg 47 (by decide +kernel) (by decide +kernel), mg 612 (by decide +kernel) (by decide +kernel), ⟨by decide +kernel, by decide +kernel, by decide +kernel⟩, by decide, by decide +kernel⟩
theorem im_X1_tellings : Cond.instanceMethod yX1_tellings ∈ tbG := mg 610 (by decide +kernel) (by decide +kernel)
theorem se_X1_tellings : Cond.selects yX1_tellings.cls yX1_tellings yX1_tellings ∈ tbG := mg 611 (by decide +kernel) (by decide +kernel)
theorem mo_X1_sharedBits : MO m_X1_sharedBits 1 := ⟨mg 47 (by decide +kernel) (by decide +kernel), mg 616 (by decide +kernel) (by decide +kernel), ⟨by decide +kernel, by decide +kernel, by decide +kernel⟩, by decide, by decide +kernel⟩
theorem im_X1_sharedBits : Cond.instanceMethod yX1_sharedBits ∈ tbG := mg 614 (by decide +kernel) (by decide +kernel)
theorem se_X1_sharedBits : Cond.selects yX1_sharedBits.cls yX1_sharedBits yX1_sharedBits ∈ tbG := mg 615 (by decide +kernel) (by decide +kernel)
theorem mo_X1_awakeCards : MO m_X1_awakeCards 0 := ⟨mg 47 (by decide +kernel) (by decide +kernel), mg 342 (by decide +kernel) (by decide +kernel), ⟨by decide +kernel, by decide +kernel, by decide +kernel⟩, by decide, by decide +kernel⟩
theorem im_X1_awakeCards : Cond.instanceMethod yX1_awakeCards ∈ tbG := mg 340 (by decide +kernel) (by decide +kernel)
theorem se_X1_awakeCards : Cond.selects yX1_awakeCards.cls yX1_awakeCards yX1_awakeCards ∈ tbG := mg 341 (by decide +kernel) (by decide +kernel)
theorem mo_X1_awakeWith : MO m_X1_awakeWith 2 := ⟨mg 47 (by decide +kernel) (by decide +kernel), mg 346 (by decide +kernel) (by decide +kernel), ⟨by decide +kernel, by decide +kernel, by decide +kernel⟩, by decide, by decide +kernel⟩
theorem im_X1_awakeWith : Cond.instanceMethod yX1_awakeWith ∈ tbG := mg 344 (by decide +kernel) (by decide +kernel)
theorem se_X1_awakeWith : Cond.selects yX1_awakeWith.cls yX1_awakeWith yX1_awakeWith ∈ tbG := mg 345 (by decide +kernel) (by decide +kernel)
theorem mo_X1_leavingCards : MO m_X1_leavingCards 0 := ⟨mg 47 (by decide +kernel) (by decide +kernel), mg 636 (by decide +kernel) (by decide +kernel), ⟨by decide +kernel, by decide +kernel, by decide +kernel⟩, by decide, by decide +kernel⟩
theorem im_X1_leavingCards : Cond.instanceMethod yX1_leavingCards ∈ tbG := mg 634 (by decide +kernel) (by decide +kernel)
theorem se_X1_leavingCards : Cond.selects yX1_leavingCards.cls yX1_leavingCards yX1_leavingCards ∈ tbG := mg 635 (by decide +kernel) (by decide +kernel)
theorem mo_X1_insert : MO m_X1_insert 1 := ⟨mg 47 (by decide +kernel) (by decide +kernel), mg 289 (by decide +kernel) (by decide +kernel), ⟨by decide +kernel, by decide +kernel, by decide +kernel⟩, by decide, by decide +kernel⟩
theorem im_X1_insert : Cond.instanceMethod yX1_insert ∈ tbG := mg 287 (by decide +kernel) (by decide +kernel)
theorem se_X1_insert : Cond.selects yX1_insert.cls yX1_insert yX1_insert ∈ tbG := mg 288 (by decide +kernel) (by decide +kernel)
theorem mo_X1_removeAt : MO m_X1_removeAt 1 := ⟨mg 47 (by decide +kernel) (by decide +kernel), mg 318 (by decide +kernel) (by decide +kernel), ⟨by decide +kernel, by decide +kernel, by decide +kernel⟩, by decide, by decide +kernel⟩
theorem im_X1_removeAt : Cond.instanceMethod yX1_removeAt ∈ tbG := mg 316 (by decide +kernel) (by decide +kernel)
theorem se_X1_removeAt : Cond.selects yX1_removeAt.cls yX1_removeAt yX1_removeAt ∈ tbG := mg 317 (by decide +kernel) (by decide +kernel)
theorem mo_X1_moveCard : MO m_X1_moveCard 2 := ⟨mg 47 (by decide +kernel) (by decide +kernel), mg 293 (by decide +kernel) (by decide +kernel), ⟨by decide +kernel, by decide +kernel, by decide +kernel⟩, by decide, by decide +kernel⟩
theorem im_X1_moveCard : Cond.instanceMethod yX1_moveCard ∈ tbG := mg 292 (by decide +kernel) (by decide +kernel)
theorem se_X1_moveCard : Cond.selects yX1_moveCard.cls yX1_moveCard yX1_moveCard ∈ tbG := mg 0 (by decide +kernel) (by decide +kernel)
theorem mo_X1_sleepAt : MO m_X1_sleepAt 1 := ⟨mg 47 (by decide +kernel) (by decide +kernel), mg 338 (by decide +kernel) (by decide +kernel), ⟨by decide +kernel, by decide +kernel, by decide +kernel⟩, by decide, by decide +kernel⟩
theorem im_X1_sleepAt : Cond.instanceMethod yX1_sleepAt ∈ tbG := mg 336 (by decide +kernel) (by decide +kernel)
theorem se_X1_sleepAt : Cond.selects yX1_sleepAt.cls yX1_sleepAt yX1_sleepAt ∈ tbG := mg 337 (by decide +kernel) (by decide +kernel)
theorem mo_X1_wakeEach : MO m_X1_wakeEach 0 := ⟨mg 47 (by decide +kernel) (by decide +kernel), mg 361 (by decide +kernel) (by decide +kernel), ⟨by decide +kernel, by decide +kernel, by decide +kernel⟩, by decide, by decide +kernel⟩
theorem im_X1_wakeEach : Cond.instanceMethod yX1_wakeEach ∈ tbG := mg 359 (by decide +kernel) (by decide +kernel)
theorem se_X1_wakeEach : Cond.selects yX1_wakeEach.cls yX1_wakeEach yX1_wakeEach ∈ tbG := mg 360 (by decide +kernel) (by decide +kernel)
theorem mo_X1_leaveAt : MO m_X1_leaveAt 2 := ⟨mg 47 (by decide +kernel) (by decide +kernel), mg 377 (by decide +kernel) (by decide +kernel), ⟨by decide +kernel, by decide +kernel, by decide +kernel⟩, by decide, by decide +kernel⟩
theorem im_X1_leaveAt : Cond.instanceMethod yX1_leaveAt ∈ tbG := mg 375 (by decide +kernel) (by decide +kernel)
theorem se_X1_leaveAt : Cond.selects yX1_leaveAt.cls yX1_leaveAt yX1_leaveAt ∈ tbG := mg 376 (by decide +kernel) (by decide +kernel)
theorem mo_X1_tellAt : MO m_X1_tellAt 1 := ⟨mg 47 (by decide +kernel) (by decide +kernel), mg 451 (by decide +kernel) (by decide +kernel), ⟨by decide +kernel, by decide +kernel, by decide +kernel⟩, by decide, by decide +kernel⟩
theorem im_X1_tellAt : Cond.instanceMethod yX1_tellAt ∈ tbG := mg 449 (by decide +kernel) (by decide +kernel)
theorem se_X1_tellAt : Cond.selects yX1_tellAt.cls yX1_tellAt yX1_tellAt ∈ tbG := mg 450 (by decide +kernel) (by decide +kernel)
theorem mo_X1_slotAt : MO m_X1_slotAt 2 := ⟨mg 47 (by decide +kernel) (by decide +kernel), mg 498 (by decide +kernel) (by decide +kernel), ⟨by decide +kernel, by decide +kernel, by decide +kernel⟩, by decide, by decide +kernel⟩
theorem im_X1_slotAt : Cond.instanceMethod yX1_slotAt ∈ tbG := mg 496 (by decide +kernel) (by decide +kernel)
theorem se_X1_slotAt : Cond.selects yX1_slotAt.cls yX1_slotAt yX1_slotAt ∈ tbG := mg 497 (by decide +kernel) (by decide +kernel)
theorem mo_X1_letAnswer : MO m_X1_letAnswer 2 := ⟨mg 47 (by decide +kernel) (by decide +kernel), mg 424 (by decide +kernel) (by decide +kernel), ⟨by decide +kernel, by decide +kernel, by decide +kernel⟩, by decide, by decide +kernel⟩
theorem im_X1_letAnswer : Cond.instanceMethod yX1_letAnswer ∈ tbG := mg 422 (by decide +kernel) (by decide +kernel)
theorem se_X1_letAnswer : Cond.selects yX1_letAnswer.cls yX1_letAnswer yX1_letAnswer ∈ tbG := mg 423 (by decide +kernel) (by decide +kernel)
theorem mo_X1_letAnswerIn : MO m_X1_letAnswerIn 1 := ⟨mg 47 (by decide +kernel) (by decide +kernel), mg 502 (by decide +kernel) (by decide +kernel), ⟨by decide +kernel, by decide +kernel, by decide +kernel⟩, by decide, by decide +kernel⟩
theorem im_X1_letAnswerIn : Cond.instanceMethod yX1_letAnswerIn ∈ tbG := mg 500 (by decide +kernel) (by decide +kernel)
theorem se_X1_letAnswerIn : Cond.selects yX1_letAnswerIn.cls yX1_letAnswerIn yX1_letAnswerIn ∈ tbG := mg 501 (by decide +kernel) (by decide +kernel)
theorem mo_X1_firstAnswering : MO m_X1_firstAnswering 0 := ⟨mg 47 (by decide +kernel) (by decide +kernel), mg 432 (by decide +kernel) (by decide +kernel), ⟨by decide +kernel, by decide +kernel, by decide +kernel⟩, by decide, by decide +kernel⟩
theorem im_X1_firstAnswering : Cond.instanceMethod yX1_firstAnswering ∈ tbG := mg 430 (by decide +kernel) (by decide +kernel)
theorem se_X1_firstAnswering : Cond.selects yX1_firstAnswering.cls yX1_firstAnswering yX1_firstAnswering ∈ tbG := mg 431 (by decide +kernel) (by decide +kernel)
theorem mo_X1_differencesFrom : MO m_X1_differencesFrom 1 := ⟨mg 47 (by decide +kernel) (by decide +kernel), mg 440 (by decide +kernel) (by decide +kernel), ⟨by decide +kernel, by decide +kernel, by decide +kernel⟩, by decide, by decide +kernel⟩
theorem im_X1_differencesFrom : Cond.instanceMethod yX1_differencesFrom ∈ tbG := mg 438 (by decide +kernel) (by decide +kernel)
theorem se_X1_differencesFrom : Cond.selects yX1_differencesFrom.cls yX1_differencesFrom yX1_differencesFrom ∈ tbG := mg 439 (by decide +kernel) (by decide +kernel)
theorem mo_X1_passAsk : MO m_X1_passAsk 0 := ⟨mg 47 (by decide +kernel) (by decide +kernel), mg 458 (by decide +kernel) (by decide +kernel), ⟨by decide +kernel, by decide +kernel, by decide +kernel⟩, by decide, by decide +kernel⟩
theorem im_X1_passAsk : Cond.instanceMethod yX1_passAsk ∈ tbG := mg 456 (by decide +kernel) (by decide +kernel)
theorem se_X1_passAsk : Cond.selects yX1_passAsk.cls yX1_passAsk yX1_passAsk ∈ tbG := mg 457 (by decide +kernel) (by decide +kernel)
theorem mo_X2_init : MO m_X2_init 0 := ⟨mg 46 (by decide +kernel) (by decide +kernel), mg 67 (by decide +kernel) (by decide +kernel), ⟨by decide +kernel, by decide +kernel, by decide +kernel⟩, by decide, by decide +kernel⟩
theorem im_X2_init : Cond.instanceMethod yX2_init ∈ tbG := mg 66 (by decide +kernel) (by decide +kernel)
theorem mo_X2_copyFrom : MO m_X2_copyFrom 1 := ⟨mg 46 (by decide +kernel) (by decide +kernel), mg 257 (by decide +kernel) (by decide +kernel), ⟨by decide +kernel, by decide +kernel, by decide +kernel⟩, by decide, by decide +kernel⟩
theorem im_X2_copyFrom : Cond.instanceMethod yX2_copyFrom ∈ tbG := mg 255 (by decide +kernel) (by decide +kernel)
theorem se_X2_copyFrom : Cond.selects yX2_copyFrom.cls yX2_copyFrom yX2_copyFrom ∈ tbG := mg 256 (by decide +kernel) (by decide +kernel)
theorem mo_X2_putCard : MO m_X2_putCard 1 := ⟨mg 46 (by decide +kernel) (by decide +kernel), mg 277 (by decide +kernel) (by decide +kernel), ⟨by decide +kernel, by decide +kernel, by decide +kernel⟩, by decide, by decide +kernel⟩
theorem im_X2_putCard : Cond.instanceMethod yX2_putCard ∈ tbG := mg 275 (by decide +kernel) (by decide +kernel)
theorem se_X2_putCard : Cond.selects yX2_putCard.cls yX2_putCard yX2_putCard ∈ tbG := mg 276 (by decide +kernel) (by decide +kernel)
theorem mo_X2_takeCard : MO m_X2_takeCard 1 := ⟨mg 46 (by decide +kernel) (by decide +kernel), mg 314 (by decide +kernel) (by decide +kernel), ⟨by decide +kernel, by decide +kernel, by decide +kernel⟩, by decide, by decide +kernel⟩
theorem im_X2_takeCard : Cond.instanceMethod yX2_takeCard ∈ tbG := mg 312 (by decide +kernel) (by decide +kernel)
theorem se_X2_takeCard : Cond.selects yX2_takeCard.cls yX2_takeCard yX2_takeCard ∈ tbG := mg 313 (by decide +kernel) (by decide +kernel)
theorem mo_X2_sleepCard : MO m_X2_sleepCard 1 := ⟨mg 46 (by decide +kernel) (by decide +kernel), mg 330 (by decide +kernel) (by decide +kernel), ⟨by decide +kernel, by decide +kernel, by decide +kernel⟩, by decide, by decide +kernel⟩
theorem im_X2_sleepCard : Cond.instanceMethod yX2_sleepCard ∈ tbG := mg 328 (by decide +kernel) (by decide +kernel)
theorem se_X2_sleepCard : Cond.selects yX2_sleepCard.cls yX2_sleepCard yX2_sleepCard ∈ tbG := mg 329 (by decide +kernel) (by decide +kernel)
theorem mo_X2_wakeCards : MO m_X2_wakeCards 0 := ⟨mg 46 (by decide +kernel) (by decide +kernel), mg 357 (by decide +kernel) (by decide +kernel), ⟨by decide +kernel, by decide +kernel, by decide +kernel⟩, by decide, by decide +kernel⟩
theorem im_X2_wakeCards : Cond.instanceMethod yX2_wakeCards ∈ tbG := mg 355 (by decide +kernel) (by decide +kernel)
theorem se_X2_wakeCards : Cond.selects yX2_wakeCards.cls yX2_wakeCards yX2_wakeCards ∈ tbG := mg 356 (by decide +kernel) (by decide +kernel)
theorem mo_X2_leaveBehind : MO m_X2_leaveBehind 2 := ⟨mg 46 (by decide +kernel) (by decide +kernel), mg 369 (by decide +kernel) (by decide +kernel), ⟨by decide +kernel, by decide +kernel, by decide +kernel⟩, by decide, by decide +kernel⟩
theorem im_X2_leaveBehind : Cond.instanceMethod yX2_leaveBehind ∈ tbG := mg 367 (by decide +kernel) (by decide +kernel)
theorem se_X2_leaveBehind : Cond.selects yX2_leaveBehind.cls yX2_leaveBehind yX2_leaveBehind ∈ tbG := mg 368 (by decide +kernel) (by decide +kernel)
theorem mo_X2_setTo : MO m_X2_setTo 2 := ⟨mg 46 (by decide +kernel) (by decide +kernel), mg 385 (by decide +kernel) (by decide +kernel), ⟨by decide +kernel, by decide +kernel, by decide +kernel⟩, by decide, by decide +kernel⟩
theorem im_X2_setTo : Cond.instanceMethod yX2_setTo ∈ tbG := mg 383 (by decide +kernel) (by decide +kernel)
theorem se_X2_setTo : Cond.selects yX2_setTo.cls yX2_setTo yX2_setTo ∈ tbG := mg 384 (by decide +kernel) (by decide +kernel)
theorem mo_X2_valueOf : MO m_X2_valueOf 1 := ⟨mg 46 (by decide +kernel) (by decide +kernel), mg 640 (by decide +kernel) (by decide +kernel), ⟨by decide +kernel, by decide +kernel, by decide +kernel⟩, by decide, by decide +kernel⟩
theorem im_X2_valueOf : Cond.instanceMethod yX2_valueOf ∈ tbG := mg 638 (by decide +kernel) (by decide +kernel)
theorem se_X2_valueOf : Cond.selects yX2_valueOf.cls yX2_valueOf yX2_valueOf ∈ tbG := mg 639 (by decide +kernel) (by decide +kernel)
theorem mo_X2_shuffleTo : MO m_X2_shuffleTo 1 := ⟨mg 46 (by decide +kernel) (by decide +kernel), mg 393 (by decide +kernel) (by decide +kernel), ⟨by decide +kernel, by decide +kernel, by decide +kernel⟩, by decide, by decide +kernel⟩
theorem im_X2_shuffleTo : Cond.instanceMethod yX2_shuffleTo ∈ tbG := mg 391 (by decide +kernel) (by decide +kernel)
theorem se_X2_shuffleTo : Cond.selects yX2_shuffleTo.cls yX2_shuffleTo yX2_shuffleTo ∈ tbG := mg 392 (by decide +kernel) (by decide +kernel)
theorem mo_X2_forgetTold : MO m_X2_forgetTold 0 := ⟨mg 46 (by decide +kernel) (by decide +kernel), mg 401 (by decide +kernel) (by decide +kernel), ⟨by decide +kernel, by decide +kernel, by decide +kernel⟩, by decide, by decide +kernel⟩
theorem im_X2_forgetTold : Cond.instanceMethod yX2_forgetTold ∈ tbG := mg 399 (by decide +kernel) (by decide +kernel)
theorem se_X2_forgetTold : Cond.selects yX2_forgetTold.cls yX2_forgetTold yX2_forgetTold ∈ tbG := mg 400 (by decide +kernel) (by decide +kernel)
theorem mo_X2_askFor : MO m_X2_askFor 2 := ⟨mg 46 (by decide +kernel) (by decide +kernel), mg 420 (by decide +kernel) (by decide +kernel), ⟨by decide +kernel, by decide +kernel, by decide +kernel⟩, by decide, by decide +kernel⟩
theorem im_X2_askFor : Cond.instanceMethod yX2_askFor ∈ tbG := mg 418 (by decide +kernel) (by decide +kernel)
theorem se_X2_askFor : Cond.selects yX2_askFor.cls yX2_askFor yX2_askFor ∈ tbG := mg 419 (by decide +kernel) (by decide +kernel)
theorem mo_X2_hear : MO m_X2_hear 0 := ⟨mg 46 (by decide +kernel) (by decide +kernel), mg 428 (by decide +kernel) (by decide +kernel), ⟨by decide +kernel, by decide +kernel, by decide +kernel⟩, by decide, by decide +kernel⟩
theorem im_X2_hear : Cond.instanceMethod yX2_hear ∈ tbG := mg 427 (by decide +kernel) (by decide +kernel)
theorem se_X2_hear : Cond.selects yX2_hear.cls yX2_hear yX2_hear ∈ tbG := mg 4 (by decide +kernel) (by decide +kernel)
theorem mo_X2_makeWalk : MO m_X2_makeWalk 1 := ⟨mg 46 (by decide +kernel) (by decide +kernel), mg 466 (by decide +kernel) (by decide +kernel), ⟨by decide +kernel, by decide +kernel, by decide +kernel⟩, by decide, by decide +kernel⟩
theorem im_X2_makeWalk : Cond.instanceMethod yX2_makeWalk ∈ tbG := mg 464 (by decide +kernel) (by decide +kernel)
theorem se_X2_makeWalk : Cond.selects yX2_makeWalk.cls yX2_makeWalk yX2_makeWalk ∈ tbG := mg 465 (by decide +kernel) (by decide +kernel)
theorem mo_X2_walkFrom : MO m_X2_walkFrom 4 := ⟨mg 46 (by decide +kernel) (by decide +kernel), mg 469 (by decide +kernel) (by decide +kernel), ⟨by decide +kernel, by decide +kernel, by decide +kernel⟩, by decide, by decide +kernel⟩
theorem sm_X2_walkFrom : Cond.static yX2_walkFrom ∈ tbG := mg 468 (by decide +kernel) (by decide +kernel)
theorem mo_X2_makeFrame : MO m_X2_makeFrame 1 := ⟨mg 46 (by decide +kernel) (by decide +kernel), mg 480 (by decide +kernel) (by decide +kernel), ⟨by decide +kernel, by decide +kernel, by decide +kernel⟩, by decide, by decide +kernel⟩
theorem im_X2_makeFrame : Cond.instanceMethod yX2_makeFrame ∈ tbG := mg 478 (by decide +kernel) (by decide +kernel)
theorem se_X2_makeFrame : Cond.selects yX2_makeFrame.cls yX2_makeFrame yX2_makeFrame ∈ tbG := mg 479 (by decide +kernel) (by decide +kernel)
theorem mo_X2_drawSlots : MO m_X2_drawSlots 1 := ⟨mg 46 (by decide +kernel) (by decide +kernel), mg 487 (by decide +kernel) (by decide +kernel), ⟨by decide +kernel, by decide +kernel, by decide +kernel⟩, by decide, by decide +kernel⟩
theorem im_X2_drawSlots : Cond.instanceMethod yX2_drawSlots ∈ tbG := mg 486 (by decide +kernel) (by decide +kernel)
theorem se_X2_drawSlots : Cond.selects yX2_drawSlots.cls yX2_drawSlots yX2_drawSlots ∈ tbG := mg 5 (by decide +kernel) (by decide +kernel)
theorem mo_X2_draw : MO m_X2_draw 1 := ⟨mg 46 (by decide +kernel) (by decide +kernel), mg 491 (by decide +kernel) (by decide +kernel), ⟨by decide +kernel, by decide +kernel, by decide +kernel⟩, by decide, by decide +kernel⟩
theorem im_X2_draw : Cond.instanceMethod yX2_draw ∈ tbG := mg 490 (by decide +kernel) (by decide +kernel)
theorem se_X2_draw : Cond.selects yX2_draw.cls yX2_draw yX2_draw ∈ tbG := mg 6 (by decide +kernel) (by decide +kernel)
theorem mo_X2_makeRounds : MO m_X2_makeRounds 1 := ⟨mg 46 (by decide +kernel) (by decide +kernel), mg 510 (by decide +kernel) (by decide +kernel), ⟨by decide +kernel, by decide +kernel, by decide +kernel⟩, by decide, by decide +kernel⟩
theorem im_X2_makeRounds : Cond.instanceMethod yX2_makeRounds ∈ tbG := mg 508 (by decide +kernel) (by decide +kernel)
theorem se_X2_makeRounds : Cond.selects yX2_makeRounds.cls yX2_makeRounds yX2_makeRounds ∈ tbG := mg 509 (by decide +kernel) (by decide +kernel)
theorem mo_X2_nextSize : MO m_X2_nextSize 3 := ⟨mg 46 (by decide +kernel) (by decide +kernel), mg 515 (by decide +kernel) (by decide +kernel), ⟨by decide +kernel, by decide +kernel, by decide +kernel⟩, by decide, by decide +kernel⟩
theorem im_X2_nextSize : Cond.instanceMethod yX2_nextSize ∈ tbG := mg 514 (by decide +kernel) (by decide +kernel)
theorem se_X2_nextSize : Cond.selects yX2_nextSize.cls yX2_nextSize yX2_nextSize ∈ tbG := mg 7 (by decide +kernel) (by decide +kernel)
theorem mo_X2_carryOut : MO m_X2_carryOut 2 := ⟨mg 46 (by decide +kernel) (by decide +kernel), mg 574 (by decide +kernel) (by decide +kernel), ⟨by decide +kernel, by decide +kernel, by decide +kernel⟩, by decide, by decide +kernel⟩
theorem im_X2_carryOut : Cond.instanceMethod yX2_carryOut ∈ tbG := mg 572 (by decide +kernel) (by decide +kernel)
theorem se_X2_carryOut : Cond.selects yX2_carryOut.cls yX2_carryOut yX2_carryOut ∈ tbG := mg 573 (by decide +kernel) (by decide +kernel)
theorem mo_X3_init : MO m_X3_init 0 := ⟨mg 49 (by decide +kernel) (by decide +kernel), mg 116 (by decide +kernel) (by decide +kernel), ⟨by decide +kernel, by decide +kernel, by decide +kernel⟩, by decide, by decide +kernel⟩
theorem im_X3_init : Cond.instanceMethod yX3_init ∈ tbG := mg 115 (by decide +kernel) (by decide +kernel)
theorem mo_X3_copyFrom : MO m_X3_copyFrom 1 := ⟨mg 49 (by decide +kernel) (by decide +kernel), mg 272 (by decide +kernel) (by decide +kernel), ⟨by decide +kernel, by decide +kernel, by decide +kernel⟩, by decide, by decide +kernel⟩
theorem im_X3_copyFrom : Cond.instanceMethod yX3_copyFrom ∈ tbG := mg 270 (by decide +kernel) (by decide +kernel)
theorem se_X3_copyFrom : Cond.selects yX3_copyFrom.cls yX3_copyFrom yX3_copyFrom ∈ tbG := mg 271 (by decide +kernel) (by decide +kernel)
theorem mo_X3_numberOf : MO m_X3_numberOf 1 := ⟨mg 49 (by decide +kernel) (by decide +kernel), mg 652 (by decide +kernel) (by decide +kernel), ⟨by decide +kernel, by decide +kernel, by decide +kernel⟩, by decide, by decide +kernel⟩
theorem im_X3_numberOf : Cond.instanceMethod yX3_numberOf ∈ tbG := mg 650 (by decide +kernel) (by decide +kernel)
theorem se_X3_numberOf : Cond.selects yX3_numberOf.cls yX3_numberOf yX3_numberOf ∈ tbG := mg 651 (by decide +kernel) (by decide +kernel)
theorem mo_X4_init : MO m_X4_init 0 := ⟨mg 51 (by decide +kernel) (by decide +kernel), mg 203 (by decide +kernel) (by decide +kernel), ⟨by decide +kernel, by decide +kernel, by decide +kernel⟩, by decide, by decide +kernel⟩
theorem im_X4_init : Cond.instanceMethod yX4_init ∈ tbG := mg 202 (by decide +kernel) (by decide +kernel)
theorem mo_X4_length : MO m_X4_length 0 := ⟨mg 51 (by decide +kernel) (by decide +kernel), mg 648 (by decide +kernel) (by decide +kernel), ⟨by decide +kernel, by decide +kernel, by decide +kernel⟩, by decide, by decide +kernel⟩
theorem im_X4_length : Cond.instanceMethod yX4_length ∈ tbG := mg 646 (by decide +kernel) (by decide +kernel)
theorem se_X4_length : Cond.selects yX4_length.cls yX4_length yX4_length ∈ tbG := mg 647 (by decide +kernel) (by decide +kernel)
theorem mo_X4_append : MO m_X4_append 1 := ⟨mg 51 (by decide +kernel) (by decide +kernel), mg 526 (by decide +kernel) (by decide +kernel), ⟨by decide +kernel, by decide +kernel, by decide +kernel⟩, by decide, by decide +kernel⟩
theorem im_X4_append : Cond.instanceMethod yX4_append ∈ tbG := mg 524 (by decide +kernel) (by decide +kernel)
theorem se_X4_append : Cond.selects yX4_append.cls yX4_append yX4_append ∈ tbG := mg 525 (by decide +kernel) (by decide +kernel)
theorem mo_X4_empty : MO m_X4_empty 0 := ⟨mg 51 (by decide +kernel) (by decide +kernel), mg 534 (by decide +kernel) (by decide +kernel), ⟨by decide +kernel, by decide +kernel, by decide +kernel⟩, by decide, by decide +kernel⟩
theorem im_X4_empty : Cond.instanceMethod yX4_empty ∈ tbG := mg 532 (by decide +kernel) (by decide +kernel)
theorem se_X4_empty : Cond.selects yX4_empty.cls yX4_empty yX4_empty ∈ tbG := mg 533 (by decide +kernel) (by decide +kernel)
theorem mo_X4_orders : MO m_X4_orders 0 := ⟨mg 51 (by decide +kernel) (by decide +kernel), mg 562 (by decide +kernel) (by decide +kernel), ⟨by decide +kernel, by decide +kernel, by decide +kernel⟩, by decide, by decide +kernel⟩
theorem im_X4_orders : Cond.instanceMethod yX4_orders ∈ tbG := mg 560 (by decide +kernel) (by decide +kernel)
theorem se_X4_orders : Cond.selects yX4_orders.cls yX4_orders yX4_orders ∈ tbG := mg 561 (by decide +kernel) (by decide +kernel)
theorem mo_X4_kindAt : MO m_X4_kindAt 1 := ⟨mg 51 (by decide +kernel) (by decide +kernel), mg 566 (by decide +kernel) (by decide +kernel), ⟨by decide +kernel, by decide +kernel, by decide +kernel⟩, by decide, by decide +kernel⟩
theorem im_X4_kindAt : Cond.instanceMethod yX4_kindAt ∈ tbG := mg 564 (by decide +kernel) (by decide +kernel)
theorem se_X4_kindAt : Cond.selects yX4_kindAt.cls yX4_kindAt yX4_kindAt ∈ tbG := mg 565 (by decide +kernel) (by decide +kernel)
theorem mo_X4_numberAt : MO m_X4_numberAt 1 := ⟨mg 51 (by decide +kernel) (by decide +kernel), mg 570 (by decide +kernel) (by decide +kernel), ⟨by decide +kernel, by decide +kernel, by decide +kernel⟩, by decide, by decide +kernel⟩
theorem im_X4_numberAt : Cond.instanceMethod yX4_numberAt ∈ tbG := mg 568 (by decide +kernel) (by decide +kernel)
theorem se_X4_numberAt : Cond.selects yX4_numberAt.cls yX4_numberAt yX4_numberAt ∈ tbG := mg 569 (by decide +kernel) (by decide +kernel)
theorem mo_X4_readOrders : MO m_X4_readOrders 0 := ⟨mg 51 (by decide +kernel) (by decide +kernel), mg 542 (by decide +kernel) (by decide +kernel), ⟨by decide +kernel, by decide +kernel, by decide +kernel⟩, by decide, by decide +kernel⟩
theorem im_X4_readOrders : Cond.instanceMethod yX4_readOrders ∈ tbG := mg 540 (by decide +kernel) (by decide +kernel)
theorem se_X4_readOrders : Cond.selects yX4_readOrders.cls yX4_readOrders yX4_readOrders ∈ tbG := mg 541 (by decide +kernel) (by decide +kernel)
theorem mo_X4_readOrder : MO m_X4_readOrder 0 := ⟨mg 51 (by decide +kernel) (by decide +kernel), mg 546 (by decide +kernel) (by decide +kernel), ⟨by decide +kernel, by decide +kernel, by decide +kernel⟩, by decide, by decide +kernel⟩
theorem im_X4_readOrder : Cond.instanceMethod yX4_readOrder ∈ tbG := mg 545 (by decide +kernel) (by decide +kernel)
theorem se_X4_readOrder : Cond.selects yX4_readOrder.cls yX4_readOrder yX4_readOrder ∈ tbG := mg 8 (by decide +kernel) (by decide +kernel)
theorem mo_X4_readNumber : MO m_X4_readNumber 2 := ⟨mg 51 (by decide +kernel) (by decide +kernel), mg 554 (by decide +kernel) (by decide +kernel), ⟨by decide +kernel, by decide +kernel, by decide +kernel⟩, by decide, by decide +kernel⟩
theorem im_X4_readNumber : Cond.instanceMethod yX4_readNumber ∈ tbG := mg 553 (by decide +kernel) (by decide +kernel)
theorem se_X4_readNumber : Cond.selects yX4_readNumber.cls yX4_readNumber yX4_readNumber ∈ tbG := mg 10 (by decide +kernel) (by decide +kernel)
theorem mo_X4_digitAt : MO m_X4_digitAt 1 := ⟨mg 51 (by decide +kernel) (by decide +kernel), mg 558 (by decide +kernel) (by decide +kernel), ⟨by decide +kernel, by decide +kernel, by decide +kernel⟩, by decide, by decide +kernel⟩
theorem im_X4_digitAt : Cond.instanceMethod yX4_digitAt ∈ tbG := mg 557 (by decide +kernel) (by decide +kernel)
theorem se_X4_digitAt : Cond.selects yX4_digitAt.cls yX4_digitAt yX4_digitAt ∈ tbG := mg 11 (by decide +kernel) (by decide +kernel)
theorem mo_X4_characterAt : MO m_X4_characterAt 1 := ⟨mg 51 (by decide +kernel) (by decide +kernel), mg 550 (by decide +kernel) (by decide +kernel), ⟨by decide +kernel, by decide +kernel, by decide +kernel⟩, by decide, by decide +kernel⟩
theorem im_X4_characterAt : Cond.instanceMethod yX4_characterAt ∈ tbG := mg 549 (by decide +kernel) (by decide +kernel)
theorem se_X4_characterAt : Cond.selects yX4_characterAt.cls yX4_characterAt yX4_characterAt ∈ tbG := mg 9 (by decide +kernel) (by decide +kernel)
theorem mo_X5_init : MO m_X5_init 0 := ⟨mg 48 (by decide +kernel) (by decide +kernel), mg 103 (by decide +kernel) (by decide +kernel), ⟨by decide +kernel, by decide +kernel, by decide +kernel⟩, by decide, by decide +kernel⟩
theorem im_X5_init : Cond.instanceMethod yX5_init ∈ tbG := mg 102 (by decide +kernel) (by decide +kernel)
theorem mo_X5_copyFrom : MO m_X5_copyFrom 1 := ⟨mg 48 (by decide +kernel) (by decide +kernel), mg 265 (by decide +kernel) (by decide +kernel), ⟨by decide +kernel, by decide +kernel, by decide +kernel⟩, by decide, by decide +kernel⟩
theorem im_X5_copyFrom : Cond.instanceMethod yX5_copyFrom ∈ tbG := mg 263 (by decide +kernel) (by decide +kernel)
theorem se_X5_copyFrom : Cond.selects yX5_copyFrom.cls yX5_copyFrom yX5_copyFrom ∈ tbG := mg 264 (by decide +kernel) (by decide +kernel)
theorem mo_X5_names : MO m_X5_names 0 := ⟨mg 48 (by decide +kernel) (by decide +kernel), mg 405 (by decide +kernel) (by decide +kernel), ⟨by decide +kernel, by decide +kernel, by decide +kernel⟩, by decide, by decide +kernel⟩
theorem im_X5_names : Cond.instanceMethod yX5_names ∈ tbG := mg 403 (by decide +kernel) (by decide +kernel)
theorem se_X5_names : Cond.selects yX5_names.cls yX5_names yX5_names ∈ tbG := mg 404 (by decide +kernel) (by decide +kernel)
theorem mo_X5_nameAt : MO m_X5_nameAt 1 := ⟨mg 48 (by decide +kernel) (by decide +kernel), mg 627 (by decide +kernel) (by decide +kernel), ⟨by decide +kernel, by decide +kernel, by decide +kernel⟩, by decide, by decide +kernel⟩
theorem im_X5_nameAt : Cond.instanceMethod yX5_nameAt ∈ tbG := mg 625 (by decide +kernel) (by decide +kernel)
theorem se_X5_nameAt : Cond.selects yX5_nameAt.cls yX5_nameAt yX5_nameAt ∈ tbG := mg 626 (by decide +kernel) (by decide +kernel)
theorem mo_X5_add : MO m_X5_add 1 := ⟨mg 48 (by decide +kernel) (by decide +kernel), mg 447 (by decide +kernel) (by decide +kernel), ⟨by decide +kernel, by decide +kernel, by decide +kernel⟩, by decide, by decide +kernel⟩
theorem im_X5_add : Cond.instanceMethod yX5_add ∈ tbG := mg 445 (by decide +kernel) (by decide +kernel)
theorem se_X5_add : Cond.selects yX5_add.cls yX5_add yX5_add ∈ tbG := mg 446 (by decide +kernel) (by decide +kernel)
theorem mo_X5_empty : MO m_X5_empty 0 := ⟨mg 48 (by decide +kernel) (by decide +kernel), mg 409 (by decide +kernel) (by decide +kernel), ⟨by decide +kernel, by decide +kernel, by decide +kernel⟩, by decide, by decide +kernel⟩
theorem im_X5_empty : Cond.instanceMethod yX5_empty ∈ tbG := mg 407 (by decide +kernel) (by decide +kernel)
theorem se_X5_empty : Cond.selects yX5_empty.cls yX5_empty yX5_empty ∈ tbG := mg 408 (by decide +kernel) (by decide +kernel)
theorem mo_X6_init : MO m_X6_init 0 := ⟨mg 45 (by decide +kernel) (by decide +kernel), mg 59 (by decide +kernel) (by decide +kernel), ⟨by decide +kernel, by decide +kernel, by decide +kernel⟩, by decide, by decide +kernel⟩
theorem im_X6_init : Cond.instanceMethod yX6_init ∈ tbG := mg 58 (by decide +kernel) (by decide +kernel)
theorem mo_X6_put : MO m_X6_put 1 := ⟨mg 45 (by decide +kernel) (by decide +kernel), mg 253 (by decide +kernel) (by decide +kernel), ⟨by decide +kernel, by decide +kernel, by decide +kernel⟩, by decide, by decide +kernel⟩
theorem im_X6_put : Cond.instanceMethod yX6_put ∈ tbG := mg 251 (by decide +kernel) (by decide +kernel)
theorem se_X6_put : Cond.selects yX6_put.cls yX6_put yX6_put ∈ tbG := mg 252 (by decide +kernel) (by decide +kernel)
theorem mo_X6_take : MO m_X6_take 1 := ⟨mg 45 (by decide +kernel) (by decide +kernel), mg 310 (by decide +kernel) (by decide +kernel), ⟨by decide +kernel, by decide +kernel, by decide +kernel⟩, by decide, by decide +kernel⟩
theorem im_X6_take : Cond.instanceMethod yX6_take ∈ tbG := mg 308 (by decide +kernel) (by decide +kernel)
theorem se_X6_take : Cond.selects yX6_take.cls yX6_take yX6_take ∈ tbG := mg 309 (by decide +kernel) (by decide +kernel)
theorem mo_X6_sleep : MO m_X6_sleep 1 := ⟨mg 45 (by decide +kernel) (by decide +kernel), mg 326 (by decide +kernel) (by decide +kernel), ⟨by decide +kernel, by decide +kernel, by decide +kernel⟩, by decide, by decide +kernel⟩
theorem im_X6_sleep : Cond.instanceMethod yX6_sleep ∈ tbG := mg 324 (by decide +kernel) (by decide +kernel)
theorem se_X6_sleep : Cond.selects yX6_sleep.cls yX6_sleep yX6_sleep ∈ tbG := mg 325 (by decide +kernel) (by decide +kernel)
theorem mo_X6_wakeAll : MO m_X6_wakeAll 0 := ⟨mg 45 (by decide +kernel) (by decide +kernel), mg 353 (by decide +kernel) (by decide +kernel), ⟨by decide +kernel, by decide +kernel, by decide +kernel⟩, by decide, by decide +kernel⟩
theorem im_X6_wakeAll : Cond.instanceMethod yX6_wakeAll ∈ tbG := mg 351 (by decide +kernel) (by decide +kernel)
theorem se_X6_wakeAll : Cond.selects yX6_wakeAll.cls yX6_wakeAll yX6_wakeAll ∈ tbG := mg 352 (by decide +kernel) (by decide +kernel)
theorem mo_X6_leave : MO m_X6_leave 2 := ⟨mg 45 (by decide +kernel) (by decide +kernel), mg 365 (by decide +kernel) (by decide +kernel), ⟨by decide +kernel, by decide +kernel, by decide +kernel⟩, by decide, by decide +kernel⟩
theorem im_X6_leave : Cond.instanceMethod yX6_leave ∈ tbG := mg 363 (by decide +kernel) (by decide +kernel)
theorem se_X6_leave : Cond.selects yX6_leave.cls yX6_leave yX6_leave ∈ tbG := mg 364 (by decide +kernel) (by decide +kernel)
theorem mo_X6_set : MO m_X6_set 2 := ⟨mg 45 (by decide +kernel) (by decide +kernel), mg 381 (by decide +kernel) (by decide +kernel), ⟨by decide +kernel, by decide +kernel, by decide +kernel⟩, by decide, by decide +kernel⟩
theorem im_X6_set : Cond.instanceMethod yX6_set ∈ tbG := mg 379 (by decide +kernel) (by decide +kernel)
theorem se_X6_set : Cond.selects yX6_set.cls yX6_set yX6_set ∈ tbG := mg 380 (by decide +kernel) (by decide +kernel)
theorem mo_X6_shuffle : MO m_X6_shuffle 1 := ⟨mg 45 (by decide +kernel) (by decide +kernel), mg 389 (by decide +kernel) (by decide +kernel), ⟨by decide +kernel, by decide +kernel, by decide +kernel⟩, by decide, by decide +kernel⟩
theorem im_X6_shuffle : Cond.instanceMethod yX6_shuffle ∈ tbG := mg 387 (by decide +kernel) (by decide +kernel)
theorem se_X6_shuffle : Cond.selects yX6_shuffle.cls yX6_shuffle yX6_shuffle ∈ tbG := mg 388 (by decide +kernel) (by decide +kernel)
theorem mo_X6_forget : MO m_X6_forget 0 := ⟨mg 45 (by decide +kernel) (by decide +kernel), mg 397 (by decide +kernel) (by decide +kernel), ⟨by decide +kernel, by decide +kernel, by decide +kernel⟩, by decide, by decide +kernel⟩
theorem im_X6_forget : Cond.instanceMethod yX6_forget ∈ tbG := mg 395 (by decide +kernel) (by decide +kernel)
theorem se_X6_forget : Cond.selects yX6_forget.cls yX6_forget yX6_forget ∈ tbG := mg 396 (by decide +kernel) (by decide +kernel)
theorem mo_X6_ask : MO m_X6_ask 2 := ⟨mg 45 (by decide +kernel) (by decide +kernel), mg 413 (by decide +kernel) (by decide +kernel), ⟨by decide +kernel, by decide +kernel, by decide +kernel⟩, by decide, by decide +kernel⟩
theorem im_X6_ask : Cond.instanceMethod yX6_ask ∈ tbG := mg 411 (by decide +kernel) (by decide +kernel)
theorem se_X6_ask : Cond.selects yX6_ask.cls yX6_ask yX6_ask ∈ tbG := mg 412 (by decide +kernel) (by decide +kernel)
theorem mo_X6_walk : MO m_X6_walk 1 := ⟨mg 45 (by decide +kernel) (by decide +kernel), mg 462 (by decide +kernel) (by decide +kernel), ⟨by decide +kernel, by decide +kernel, by decide +kernel⟩, by decide, by decide +kernel⟩
theorem im_X6_walk : Cond.instanceMethod yX6_walk ∈ tbG := mg 460 (by decide +kernel) (by decide +kernel)
theorem se_X6_walk : Cond.selects yX6_walk.cls yX6_walk yX6_walk ∈ tbG := mg 461 (by decide +kernel) (by decide +kernel)
theorem mo_X6_frame : MO m_X6_frame 1 := ⟨mg 45 (by decide +kernel) (by decide +kernel), mg 476 (by decide +kernel) (by decide +kernel), ⟨by decide +kernel, by decide +kernel, by decide +kernel⟩, by decide, by decide +kernel⟩
theorem im_X6_frame : Cond.instanceMethod yX6_frame ∈ tbG := mg 474 (by decide +kernel) (by decide +kernel)
theorem se_X6_frame : Cond.selects yX6_frame.cls yX6_frame yX6_frame ∈ tbG := mg 475 (by decide +kernel) (by decide +kernel)
theorem mo_X6_rounds : MO m_X6_rounds 1 := ⟨mg 45 (by decide +kernel) (by decide +kernel), mg 506 (by decide +kernel) (by decide +kernel), ⟨by decide +kernel, by decide +kernel, by decide +kernel⟩, by decide, by decide +kernel⟩
theorem im_X6_rounds : Cond.instanceMethod yX6_rounds ∈ tbG := mg 504 (by decide +kernel) (by decide +kernel)
theorem se_X6_rounds : Cond.selects yX6_rounds.cls yX6_rounds yX6_rounds ∈ tbG := mg 505 (by decide +kernel) (by decide +kernel)
theorem mo_X6_type : MO m_X6_type 1 := ⟨mg 45 (by decide +kernel) (by decide +kernel), mg 522 (by decide +kernel) (by decide +kernel), ⟨by decide +kernel, by decide +kernel, by decide +kernel⟩, by decide, by decide +kernel⟩
theorem im_X6_type : Cond.instanceMethod yX6_type ∈ tbG := mg 520 (by decide +kernel) (by decide +kernel)
theorem se_X6_type : Cond.selects yX6_type.cls yX6_type yX6_type ∈ tbG := mg 521 (by decide +kernel) (by decide +kernel)
theorem mo_X6_clearText : MO m_X6_clearText 0 := ⟨mg 45 (by decide +kernel) (by decide +kernel), mg 530 (by decide +kernel) (by decide +kernel), ⟨by decide +kernel, by decide +kernel, by decide +kernel⟩, by decide, by decide +kernel⟩
theorem im_X6_clearText : Cond.instanceMethod yX6_clearText ∈ tbG := mg 528 (by decide +kernel) (by decide +kernel)
theorem se_X6_clearText : Cond.selects yX6_clearText.cls yX6_clearText yX6_clearText ∈ tbG := mg 529 (by decide +kernel) (by decide +kernel)
theorem mo_X6_perform : MO m_X6_perform 0 := ⟨mg 45 (by decide +kernel) (by decide +kernel), mg 538 (by decide +kernel) (by decide +kernel), ⟨by decide +kernel, by decide +kernel, by decide +kernel⟩, by decide, by decide +kernel⟩
theorem im_X6_perform : Cond.instanceMethod yX6_perform ∈ tbG := mg 536 (by decide +kernel) (by decide +kernel)
theorem se_X6_perform : Cond.selects yX6_perform.cls yX6_perform yX6_perform ∈ tbG := mg 537 (by decide +kernel) (by decide +kernel)
theorem mo_X6_undo : MO m_X6_undo 0 := ⟨mg 45 (by decide +kernel) (by decide +kernel), mg 583 (by decide +kernel) (by decide +kernel), ⟨by decide +kernel, by decide +kernel, by decide +kernel⟩, by decide, by decide +kernel⟩
theorem im_X6_undo : Cond.instanceMethod yX6_undo ∈ tbG := mg 581 (by decide +kernel) (by decide +kernel)
theorem se_X6_undo : Cond.selects yX6_undo.cls yX6_undo yX6_undo ∈ tbG := mg 582 (by decide +kernel) (by decide +kernel)
theorem mo_X6_keep : MO m_X6_keep 0 := ⟨mg 45 (by decide +kernel) (by decide +kernel), mg 591 (by decide +kernel) (by decide +kernel), ⟨by decide +kernel, by decide +kernel, by decide +kernel⟩, by decide, by decide +kernel⟩
theorem im_X6_keep : Cond.instanceMethod yX6_keep ∈ tbG := mg 589 (by decide +kernel) (by decide +kernel)
theorem se_X6_keep : Cond.selects yX6_keep.cls yX6_keep yX6_keep ∈ tbG := mg 590 (by decide +kernel) (by decide +kernel)
theorem mo_X6_restore : MO m_X6_restore 0 := ⟨mg 45 (by decide +kernel) (by decide +kernel), mg 596 (by decide +kernel) (by decide +kernel), ⟨by decide +kernel, by decide +kernel, by decide +kernel⟩, by decide, by decide +kernel⟩
theorem im_X6_restore : Cond.instanceMethod yX6_restore ∈ tbG := mg 594 (by decide +kernel) (by decide +kernel)
theorem se_X6_restore : Cond.selects yX6_restore.cls yX6_restore yX6_restore ∈ tbG := mg 595 (by decide +kernel) (by decide +kernel)
theorem mo_X6_card : MO m_X6_card 1 := ⟨mg 45 (by decide +kernel) (by decide +kernel), mg 600 (by decide +kernel) (by decide +kernel), ⟨by decide +kernel, by decide +kernel, by decide +kernel⟩, by decide, by decide +kernel⟩
theorem im_X6_card : Cond.instanceMethod yX6_card ∈ tbG := mg 598 (by decide +kernel) (by decide +kernel)
theorem se_X6_card : Cond.selects yX6_card.cls yX6_card yX6_card ∈ tbG := mg 599 (by decide +kernel) (by decide +kernel)
theorem mo_X6_ofCard : MO m_X6_ofCard 2 := ⟨mg 45 (by decide +kernel) (by decide +kernel), mg 605 (by decide +kernel) (by decide +kernel), ⟨by decide +kernel, by decide +kernel, by decide +kernel⟩, by decide, by decide +kernel⟩
theorem im_X6_ofCard : Cond.instanceMethod yX6_ofCard ∈ tbG := mg 603 (by decide +kernel) (by decide +kernel)
theorem se_X6_ofCard : Cond.selects yX6_ofCard.cls yX6_ofCard yX6_ofCard ∈ tbG := mg 604 (by decide +kernel) (by decide +kernel)
theorem mo_X6_told : MO m_X6_told 1 := ⟨mg 45 (by decide +kernel) (by decide +kernel), mg 622 (by decide +kernel) (by decide +kernel), ⟨by decide +kernel, by decide +kernel, by decide +kernel⟩, by decide, by decide +kernel⟩
theorem im_X6_told : Cond.instanceMethod yX6_told ∈ tbG := mg 620 (by decide +kernel) (by decide +kernel)
theorem se_X6_told : Cond.selects yX6_told.cls yX6_told yX6_told ∈ tbG := mg 621 (by decide +kernel) (by decide +kernel)
theorem mo_X6_total : MO m_X6_total 1 := ⟨mg 45 (by decide +kernel) (by decide +kernel), mg 631 (by decide +kernel) (by decide +kernel), ⟨by decide +kernel, by decide +kernel, by decide +kernel⟩, by decide, by decide +kernel⟩
theorem im_X6_total : Cond.instanceMethod yX6_total ∈ tbG := mg 629 (by decide +kernel) (by decide +kernel)
theorem se_X6_total : Cond.selects yX6_total.cls yX6_total yX6_total ∈ tbG := mg 630 (by decide +kernel) (by decide +kernel)
theorem mo_X6_count : MO m_X6_count 2 := ⟨mg 45 (by decide +kernel) (by decide +kernel), mg 656 (by decide +kernel) (by decide +kernel), ⟨by decide +kernel, by decide +kernel, by decide +kernel⟩, by decide, by decide +kernel⟩
theorem im_X6_count : Cond.instanceMethod yX6_count ∈ tbG := mg 654 (by decide +kernel) (by decide +kernel)
theorem se_X6_count : Cond.selects yX6_count.cls yX6_count yX6_count ∈ tbG := mg 655 (by decide +kernel) (by decide +kernel)
theorem mo_X6_walkTakes : MO m_X6_walkTakes 2 := ⟨mg 45 (by decide +kernel) (by decide +kernel), mg 661 (by decide +kernel) (by decide +kernel), ⟨by decide +kernel, by decide +kernel, by decide +kernel⟩, by decide, by decide +kernel⟩
theorem im_X6_walkTakes : Cond.instanceMethod yX6_walkTakes ∈ tbG := mg 659 (by decide +kernel) (by decide +kernel)
theorem se_X6_walkTakes : Cond.selects yX6_walkTakes.cls yX6_walkTakes yX6_walkTakes ∈ tbG := mg 660 (by decide +kernel) (by decide +kernel)
theorem mo_X6_roundsTake : MO m_X6_roundsTake 2 := ⟨mg 45 (by decide +kernel) (by decide +kernel), mg 665 (by decide +kernel) (by decide +kernel), ⟨by decide +kernel, by decide +kernel, by decide +kernel⟩, by decide, by decide +kernel⟩
theorem im_X6_roundsTake : Cond.instanceMethod yX6_roundsTake ∈ tbG := mg 663 (by decide +kernel) (by decide +kernel)
theorem se_X6_roundsTake : Cond.selects yX6_roundsTake.cls yX6_roundsTake yX6_roundsTake ∈ tbG := mg 664 (by decide +kernel) (by decide +kernel)
theorem mo_X6_bestFrame : MO m_X6_bestFrame 0 := ⟨mg 45 (by decide +kernel) (by decide +kernel), mg 670 (by decide +kernel) (by decide +kernel), ⟨by decide +kernel, by decide +kernel, by decide +kernel⟩, by decide, by decide +kernel⟩
theorem im_X6_bestFrame : Cond.instanceMethod yX6_bestFrame ∈ tbG := mg 668 (by decide +kernel) (by decide +kernel)
theorem se_X6_bestFrame : Cond.selects yX6_bestFrame.cls yX6_bestFrame yX6_bestFrame ∈ tbG := mg 669 (by decide +kernel) (by decide +kernel)
theorem mo_X6_thickest : MO m_X6_thickest 1 := ⟨mg 45 (by decide +kernel) (by decide +kernel), mg 674 (by decide +kernel) (by decide +kernel), ⟨by decide +kernel, by decide +kernel, by decide +kernel⟩, by decide, by decide +kernel⟩
theorem im_X6_thickest : Cond.instanceMethod yX6_thickest ∈ tbG := mg 672 (by decide +kernel) (by decide +kernel)
theorem se_X6_thickest : Cond.selects yX6_thickest.cls yX6_thickest yX6_thickest ∈ tbG := mg 673 (by decide +kernel) (by decide +kernel)
theorem mo_X6_recorded : MO m_X6_recorded 1 := ⟨mg 45 (by decide +kernel) (by decide +kernel), mg 297 (by decide +kernel) (by decide +kernel), ⟨by decide +kernel, by decide +kernel, by decide +kernel⟩, by decide, by decide +kernel⟩
theorem im_X6_recorded : Cond.instanceMethod yX6_recorded ∈ tbG := mg 296 (by decide +kernel) (by decide +kernel)
theorem se_X6_recorded : Cond.selects yX6_recorded.cls yX6_recorded yX6_recorded ∈ tbG := mg 1 (by decide +kernel) (by decide +kernel)
theorem mo_X6_isBeginning : MO m_X6_isBeginning 2 := ⟨mg 45 (by decide +kernel) (by decide +kernel), mg 416 (by decide +kernel) (by decide +kernel), ⟨by decide +kernel, by decide +kernel, by decide +kernel⟩, by decide, by decide +kernel⟩
theorem sm_X6_isBeginning : Cond.static yX6_isBeginning ∈ tbG := mg 415 (by decide +kernel) (by decide +kernel)
theorem mo_X6_isFrameSize : MO m_X6_isFrameSize 1 := ⟨mg 45 (by decide +kernel) (by decide +kernel), mg 483 (by decide +kernel) (by decide +kernel), ⟨by decide +kernel, by decide +kernel, by decide +kernel⟩, by decide, by decide +kernel⟩
theorem sm_X6_isFrameSize : Cond.static yX6_isFrameSize ∈ tbG := mg 482 (by decide +kernel) (by decide +kernel)
theorem mo_X6_firstBits : MO m_X6_firstBits 2 := ⟨mg 45 (by decide +kernel) (by decide +kernel), mg 349 (by decide +kernel) (by decide +kernel), ⟨by decide +kernel, by decide +kernel, by decide +kernel⟩, by decide, by decide +kernel⟩
theorem sm_X6_firstBits : Cond.static yX6_firstBits ∈ tbG := mg 348 (by decide +kernel) (by decide +kernel)
theorem mo_X6_firstOne : MO m_X6_firstOne 1 := ⟨mg 45 (by decide +kernel) (by decide +kernel), mg 443 (by decide +kernel) (by decide +kernel), ⟨by decide +kernel, by decide +kernel, by decide +kernel⟩, by decide, by decide +kernel⟩
theorem sm_X6_firstOne : Cond.static yX6_firstOne ∈ tbG := mg 442 (by decide +kernel) (by decide +kernel)
theorem mo_X7_init : MO m_X7_init 0 := ⟨mg 52 (by decide +kernel) (by decide +kernel), mg 679 (by decide +kernel) (by decide +kernel), ⟨by decide +kernel, by decide +kernel, by decide +kernel⟩, by decide, by decide +kernel⟩
theorem im_X7_init : Cond.instanceMethod yX7_init ∈ tbG := mg 678 (by decide +kernel) (by decide +kernel)
theorem mo_X7_in : MO m_X7_in 3 := ⟨mg 52 (by decide +kernel) (by decide +kernel), mg 775 (by decide +kernel) (by decide +kernel), ⟨by decide +kernel, by decide +kernel, by decide +kernel⟩, by decide, by decide +kernel⟩
theorem sm_X7_in : Cond.static yX7_in ∈ tbG := mg 774 (by decide +kernel) (by decide +kernel)
theorem mo_X7_of : MO m_X7_of 2 := ⟨mg 52 (by decide +kernel) (by decide +kernel), mg 783 (by decide +kernel) (by decide +kernel), ⟨by decide +kernel, by decide +kernel, by decide +kernel⟩, by decide, by decide +kernel⟩
theorem im_X7_of : Cond.instanceMethod yX7_of ∈ tbG := mg 782 (by decide +kernel) (by decide +kernel)
theorem se_X7_of : Cond.selects yX7_of.cls yX7_of yX7_of ∈ tbG := mg 16 (by decide +kernel) (by decide +kernel)
theorem mo_X7_lay : MO m_X7_lay 3 := ⟨mg 52 (by decide +kernel) (by decide +kernel), mg 791 (by decide +kernel) (by decide +kernel), ⟨by decide +kernel, by decide +kernel, by decide +kernel⟩, by decide, by decide +kernel⟩
theorem im_X7_lay : Cond.instanceMethod yX7_lay ∈ tbG := mg 790 (by decide +kernel) (by decide +kernel)
theorem se_X7_lay : Cond.selects yX7_lay.cls yX7_lay yX7_lay ∈ tbG := mg 18 (by decide +kernel) (by decide +kernel)
theorem mo_X7_cardWith : MO m_X7_cardWith 1 := ⟨mg 52 (by decide +kernel) (by decide +kernel), mg 779 (by decide +kernel) (by decide +kernel), ⟨by decide +kernel, by decide +kernel, by decide +kernel⟩, by decide, by decide +kernel⟩
theorem im_X7_cardWith : Cond.instanceMethod yX7_cardWith ∈ tbG := mg 778 (by decide +kernel) (by decide +kernel)
theorem se_X7_cardWith : Cond.selects yX7_cardWith.cls yX7_cardWith yX7_cardWith ∈ tbG := mg 15 (by decide +kernel) (by decide +kernel)
theorem mo_X7_copyState : MO m_X7_copyState 4 := ⟨mg 52 (by decide +kernel) (by decide +kernel), mg 748 (by decide +kernel) (by decide +kernel), ⟨by decide +kernel, by decide +kernel, by decide +kernel⟩, by decide, by decide +kernel⟩
theorem sm_X7_copyState : Cond.static yX7_copyState ∈ tbG := mg 747 (by decide +kernel) (by decide +kernel)
theorem mo_X7_recordRow : MO m_X7_recordRow 1 := ⟨mg 52 (by decide +kernel) (by decide +kernel), mg 764 (by decide +kernel) (by decide +kernel), ⟨by decide +kernel, by decide +kernel, by decide +kernel⟩, by decide, by decide +kernel⟩
theorem im_X7_recordRow : Cond.instanceMethod yX7_recordRow ∈ tbG := mg 763 (by decide +kernel) (by decide +kernel)
theorem se_X7_recordRow : Cond.selects yX7_recordRow.cls yX7_recordRow yX7_recordRow ∈ tbG := mg 13 (by decide +kernel) (by decide +kernel)
theorem mo_X7_record : MO m_X7_record 0 := ⟨mg 52 (by decide +kernel) (by decide +kernel), mg 760 (by decide +kernel) (by decide +kernel), ⟨by decide +kernel, by decide +kernel, by decide +kernel⟩, by decide, by decide +kernel⟩
theorem im_X7_record : Cond.instanceMethod yX7_record ∈ tbG := mg 759 (by decide +kernel) (by decide +kernel)
theorem se_X7_record : Cond.selects yX7_record.cls yX7_record yX7_record ∈ tbG := mg 12 (by decide +kernel) (by decide +kernel)
theorem mo_X7_undo : MO m_X7_undo 0 := ⟨mg 52 (by decide +kernel) (by decide +kernel), mg 745 (by decide +kernel) (by decide +kernel), ⟨by decide +kernel, by decide +kernel, by decide +kernel⟩, by decide, by decide +kernel⟩
theorem im_X7_undo : Cond.instanceMethod yX7_undo ∈ tbG := mg 743 (by decide +kernel) (by decide +kernel)
theorem se_X7_undo : Cond.selects yX7_undo.cls yX7_undo yX7_undo ∈ tbG := mg 744 (by decide +kernel) (by decide +kernel)
theorem mo_X7_keep : MO m_X7_keep 0 := ⟨mg 52 (by decide +kernel) (by decide +kernel), mg 752 (by decide +kernel) (by decide +kernel), ⟨by decide +kernel, by decide +kernel, by decide +kernel⟩, by decide, by decide +kernel⟩
theorem im_X7_keep : Cond.instanceMethod yX7_keep ∈ tbG := mg 750 (by decide +kernel) (by decide +kernel)
theorem se_X7_keep : Cond.selects yX7_keep.cls yX7_keep yX7_keep ∈ tbG := mg 751 (by decide +kernel) (by decide +kernel)
theorem mo_X7_restore : MO m_X7_restore 0 := ⟨mg 52 (by decide +kernel) (by decide +kernel), mg 756 (by decide +kernel) (by decide +kernel), ⟨by decide +kernel, by decide +kernel, by decide +kernel⟩, by decide, by decide +kernel⟩
theorem im_X7_restore : Cond.instanceMethod yX7_restore ∈ tbG := mg 754 (by decide +kernel) (by decide +kernel)
theorem se_X7_restore : Cond.selects yX7_restore.cls yX7_restore yX7_restore ∈ tbG := mg 755 (by decide +kernel) (by decide +kernel)
theorem mo_X7_whyNotPut : MO m_X7_whyNotPut 1 := ⟨mg 52 (by decide +kernel) (by decide +kernel), mg 772 (by decide +kernel) (by decide +kernel), ⟨by decide +kernel, by decide +kernel, by decide +kernel⟩, by decide, by decide +kernel⟩
theorem im_X7_whyNotPut : Cond.instanceMethod yX7_whyNotPut ∈ tbG := mg 771 (by decide +kernel) (by decide +kernel)
theorem se_X7_whyNotPut : Cond.selects yX7_whyNotPut.cls yX7_whyNotPut yX7_whyNotPut ∈ tbG := mg 14 (by decide +kernel) (by decide +kernel)
theorem mo_X7_putNow : MO m_X7_putNow 1 := ⟨mg 52 (by decide +kernel) (by decide +kernel), mg 787 (by decide +kernel) (by decide +kernel), ⟨by decide +kernel, by decide +kernel, by decide +kernel⟩, by decide, by decide +kernel⟩
theorem im_X7_putNow : Cond.instanceMethod yX7_putNow ∈ tbG := mg 786 (by decide +kernel) (by decide +kernel)
theorem se_X7_putNow : Cond.selects yX7_putNow.cls yX7_putNow yX7_putNow ∈ tbG := mg 17 (by decide +kernel) (by decide +kernel)
theorem mo_X7_takeNow : MO m_X7_takeNow 1 := ⟨mg 52 (by decide +kernel) (by decide +kernel), mg 799 (by decide +kernel) (by decide +kernel), ⟨by decide +kernel, by decide +kernel, by decide +kernel⟩, by decide, by decide +kernel⟩
theorem im_X7_takeNow : Cond.instanceMethod yX7_takeNow ∈ tbG := mg 798 (by decide +kernel) (by decide +kernel)
theorem se_X7_takeNow : Cond.selects yX7_takeNow.cls yX7_takeNow yX7_takeNow ∈ tbG := mg 19 (by decide +kernel) (by decide +kernel)
theorem mo_X7_put : MO m_X7_put 1 := ⟨mg 52 (by decide +kernel) (by decide +kernel), mg 768 (by decide +kernel) (by decide +kernel), ⟨by decide +kernel, by decide +kernel, by decide +kernel⟩, by decide, by decide +kernel⟩
theorem im_X7_put : Cond.instanceMethod yX7_put ∈ tbG := mg 766 (by decide +kernel) (by decide +kernel)
theorem se_X7_put : Cond.selects yX7_put.cls yX7_put yX7_put ∈ tbG := mg 767 (by decide +kernel) (by decide +kernel)
theorem mo_X7_take : MO m_X7_take 1 := ⟨mg 52 (by decide +kernel) (by decide +kernel), mg 795 (by decide +kernel) (by decide +kernel), ⟨by decide +kernel, by decide +kernel, by decide +kernel⟩, by decide, by decide +kernel⟩
theorem im_X7_take : Cond.instanceMethod yX7_take ∈ tbG := mg 793 (by decide +kernel) (by decide +kernel)
theorem se_X7_take : Cond.selects yX7_take.cls yX7_take yX7_take ∈ tbG := mg 794 (by decide +kernel) (by decide +kernel)
theorem mo_X7_awake : MO m_X7_awake 0 := ⟨mg 52 (by decide +kernel) (by decide +kernel), mg 807 (by decide +kernel) (by decide +kernel), ⟨by decide +kernel, by decide +kernel, by decide +kernel⟩, by decide, by decide +kernel⟩
theorem im_X7_awake : Cond.instanceMethod yX7_awake ∈ tbG := mg 806 (by decide +kernel) (by decide +kernel)
theorem se_X7_awake : Cond.selects yX7_awake.cls yX7_awake yX7_awake ∈ tbG := mg 20 (by decide +kernel) (by decide +kernel)
theorem mo_X7_sleep : MO m_X7_sleep 1 := ⟨mg 52 (by decide +kernel) (by decide +kernel), mg 803 (by decide +kernel) (by decide +kernel), ⟨by decide +kernel, by decide +kernel, by decide +kernel⟩, by decide, by decide +kernel⟩
theorem im_X7_sleep : Cond.instanceMethod yX7_sleep ∈ tbG := mg 801 (by decide +kernel) (by decide +kernel)
theorem se_X7_sleep : Cond.selects yX7_sleep.cls yX7_sleep yX7_sleep ∈ tbG := mg 802 (by decide +kernel) (by decide +kernel)
theorem mo_X7_wakeNow : MO m_X7_wakeNow 0 := ⟨mg 52 (by decide +kernel) (by decide +kernel), mg 815 (by decide +kernel) (by decide +kernel), ⟨by decide +kernel, by decide +kernel, by decide +kernel⟩, by decide, by decide +kernel⟩
theorem im_X7_wakeNow : Cond.instanceMethod yX7_wakeNow ∈ tbG := mg 814 (by decide +kernel) (by decide +kernel)
theorem se_X7_wakeNow : Cond.selects yX7_wakeNow.cls yX7_wakeNow yX7_wakeNow ∈ tbG := mg 21 (by decide +kernel) (by decide +kernel)
theorem mo_X7_wakeAll : MO m_X7_wakeAll 0 := ⟨mg 52 (by decide +kernel) (by decide +kernel), mg 811 (by decide +kernel) (by decide +kernel), ⟨by decide +kernel, by decide +kernel, by decide +kernel⟩, by decide, by decide +kernel⟩
theorem im_X7_wakeAll : Cond.instanceMethod yX7_wakeAll ∈ tbG := mg 809 (by decide +kernel) (by decide +kernel)
theorem se_X7_wakeAll : Cond.selects yX7_wakeAll.cls yX7_wakeAll yX7_wakeAll ∈ tbG := mg 810 (by decide +kernel) (by decide +kernel)
theorem mo_X7_leave : MO m_X7_leave 2 := ⟨mg 52 (by decide +kernel) (by decide +kernel), mg 819 (by decide +kernel) (by decide +kernel), ⟨by decide +kernel, by decide +kernel, by decide +kernel⟩, by decide, by decide +kernel⟩
theorem im_X7_leave : Cond.instanceMethod yX7_leave ∈ tbG := mg 817 (by decide +kernel) (by decide +kernel)
theorem se_X7_leave : Cond.selects yX7_leave.cls yX7_leave yX7_leave ∈ tbG := mg 818 (by decide +kernel) (by decide +kernel)
theorem mo_X7_set : MO m_X7_set 2 := ⟨mg 52 (by decide +kernel) (by decide +kernel), mg 823 (by decide +kernel) (by decide +kernel), ⟨by decide +kernel, by decide +kernel, by decide +kernel⟩, by decide, by decide +kernel⟩
theorem im_X7_set : Cond.instanceMethod yX7_set ∈ tbG := mg 821 (by decide +kernel) (by decide +kernel)
theorem se_X7_set : Cond.selects yX7_set.cls yX7_set yX7_set ∈ tbG := mg 822 (by decide +kernel) (by decide +kernel)
theorem mo_X7_shuffle : MO m_X7_shuffle 1 := ⟨mg 52 (by decide +kernel) (by decide +kernel), mg 827 (by decide +kernel) (by decide +kernel), ⟨by decide +kernel, by decide +kernel, by decide +kernel⟩, by decide, by decide +kernel⟩
theorem im_X7_shuffle : Cond.instanceMethod yX7_shuffle ∈ tbG := mg 825 (by decide +kernel) (by decide +kernel)
theorem se_X7_shuffle : Cond.selects yX7_shuffle.cls yX7_shuffle yX7_shuffle ∈ tbG := mg 826 (by decide +kernel) (by decide +kernel)
theorem mo_X7_forget : MO m_X7_forget 0 := ⟨mg 52 (by decide +kernel) (by decide +kernel), mg 831 (by decide +kernel) (by decide +kernel), ⟨by decide +kernel, by decide +kernel, by decide +kernel⟩, by decide, by decide +kernel⟩
theorem im_X7_forget : Cond.instanceMethod yX7_forget ∈ tbG := mg 829 (by decide +kernel) (by decide +kernel)
theorem se_X7_forget : Cond.selects yX7_forget.cls yX7_forget yX7_forget ∈ tbG := mg 830 (by decide +kernel) (by decide +kernel)
theorem mo_X7_tell : MO m_X7_tell 1 := ⟨mg 52 (by decide +kernel) (by decide +kernel), mg 865 (by decide +kernel) (by decide +kernel), ⟨by decide +kernel, by decide +kernel, by decide +kernel⟩, by decide, by decide +kernel⟩
theorem im_X7_tell : Cond.instanceMethod yX7_tell ∈ tbG := mg 864 (by decide +kernel) (by decide +kernel)
theorem se_X7_tell : Cond.selects yX7_tell.cls yX7_tell yX7_tell ∈ tbG := mg 27 (by decide +kernel) (by decide +kernel)
theorem mo_X7_letGo : MO m_X7_letGo 0 := ⟨mg 52 (by decide +kernel) (by decide +kernel), mg 869 (by decide +kernel) (by decide +kernel), ⟨by decide +kernel, by decide +kernel, by decide +kernel⟩, by decide, by decide +kernel⟩
theorem im_X7_letGo : Cond.instanceMethod yX7_letGo ∈ tbG := mg 868 (by decide +kernel) (by decide +kernel)
theorem se_X7_letGo : Cond.selects yX7_letGo.cls yX7_letGo yX7_letGo ∈ tbG := mg 28 (by decide +kernel) (by decide +kernel)
theorem mo_X7_begins : MO m_X7_begins 3 := ⟨mg 52 (by decide +kernel) (by decide +kernel), mg 849 (by decide +kernel) (by decide +kernel), ⟨by decide +kernel, by decide +kernel, by decide +kernel⟩, by decide, by decide +kernel⟩
theorem sm_X7_begins : Cond.static yX7_begins ∈ tbG := mg 848 (by decide +kernel) (by decide +kernel)
theorem mo_X7_noAnswer : MO m_X7_noAnswer 0 := ⟨mg 52 (by decide +kernel) (by decide +kernel), mg 846 (by decide +kernel) (by decide +kernel), ⟨by decide +kernel, by decide +kernel, by decide +kernel⟩, by decide, by decide +kernel⟩
theorem im_X7_noAnswer : Cond.instanceMethod yX7_noAnswer ∈ tbG := mg 845 (by decide +kernel) (by decide +kernel)
theorem se_X7_noAnswer : Cond.selects yX7_noAnswer.cls yX7_noAnswer yX7_noAnswer ∈ tbG := mg 23 (by decide +kernel) (by decide +kernel)
theorem mo_X7_answers : MO m_X7_answers 1 := ⟨mg 52 (by decide +kernel) (by decide +kernel), mg 853 (by decide +kernel) (by decide +kernel), ⟨by decide +kernel, by decide +kernel, by decide +kernel⟩, by decide, by decide +kernel⟩
theorem im_X7_answers : Cond.instanceMethod yX7_answers ∈ tbG := mg 852 (by decide +kernel) (by decide +kernel)
theorem se_X7_answers : Cond.selects yX7_answers.cls yX7_answers yX7_answers ∈ tbG := mg 24 (by decide +kernel) (by decide +kernel)
theorem mo_X7_clashBit : MO m_X7_clashBit 0 := ⟨mg 52 (by decide +kernel) (by decide +kernel), mg 861 (by decide +kernel) (by decide +kernel), ⟨by decide +kernel, by decide +kernel, by decide +kernel⟩, by decide, by decide +kernel⟩
theorem im_X7_clashBit : Cond.instanceMethod yX7_clashBit ∈ tbG := mg 860 (by decide +kernel) (by decide +kernel)
theorem se_X7_clashBit : Cond.selects yX7_clashBit.cls yX7_clashBit yX7_clashBit ∈ tbG := mg 26 (by decide +kernel) (by decide +kernel)
theorem mo_X7_answer : MO m_X7_answer 0 := ⟨mg 52 (by decide +kernel) (by decide +kernel), mg 857 (by decide +kernel) (by decide +kernel), ⟨by decide +kernel, by decide +kernel, by decide +kernel⟩, by decide, by decide +kernel⟩
theorem im_X7_answer : Cond.instanceMethod yX7_answer ∈ tbG := mg 856 (by decide +kernel) (by decide +kernel)
theorem se_X7_answer : Cond.selects yX7_answer.cls yX7_answer yX7_answer ∈ tbG := mg 25 (by decide +kernel) (by decide +kernel)
theorem mo_X7_askNow : MO m_X7_askNow 2 := ⟨mg 52 (by decide +kernel) (by decide +kernel), mg 842 (by decide +kernel) (by decide +kernel), ⟨by decide +kernel, by decide +kernel, by decide +kernel⟩, by decide, by decide +kernel⟩
theorem im_X7_askNow : Cond.instanceMethod yX7_askNow ∈ tbG := mg 841 (by decide +kernel) (by decide +kernel)
theorem se_X7_askNow : Cond.selects yX7_askNow.cls yX7_askNow yX7_askNow ∈ tbG := mg 22 (by decide +kernel) (by decide +kernel)
theorem mo_X7_isBeginning : MO m_X7_isBeginning 2 := ⟨mg 52 (by decide +kernel) (by decide +kernel), mg 838 (by decide +kernel) (by decide +kernel), ⟨by decide +kernel, by decide +kernel, by decide +kernel⟩, by decide, by decide +kernel⟩
theorem sm_X7_isBeginning : Cond.static yX7_isBeginning ∈ tbG := mg 837 (by decide +kernel) (by decide +kernel)
theorem mo_X7_ask : MO m_X7_ask 2 := ⟨mg 52 (by decide +kernel) (by decide +kernel), mg 835 (by decide +kernel) (by decide +kernel), ⟨by decide +kernel, by decide +kernel, by decide +kernel⟩, by decide, by decide +kernel⟩
theorem im_X7_ask : Cond.instanceMethod yX7_ask ∈ tbG := mg 833 (by decide +kernel) (by decide +kernel)
theorem se_X7_ask : Cond.selects yX7_ask.cls yX7_ask yX7_ask ∈ tbG := mg 834 (by decide +kernel) (by decide +kernel)
theorem mo_X7_walkNow : MO m_X7_walkNow 1 := ⟨mg 52 (by decide +kernel) (by decide +kernel), mg 877 (by decide +kernel) (by decide +kernel), ⟨by decide +kernel, by decide +kernel, by decide +kernel⟩, by decide, by decide +kernel⟩
theorem im_X7_walkNow : Cond.instanceMethod yX7_walkNow ∈ tbG := mg 876 (by decide +kernel) (by decide +kernel)
theorem se_X7_walkNow : Cond.selects yX7_walkNow.cls yX7_walkNow yX7_walkNow ∈ tbG := mg 29 (by decide +kernel) (by decide +kernel)
theorem mo_X7_walk : MO m_X7_walk 1 := ⟨mg 52 (by decide +kernel) (by decide +kernel), mg 873 (by decide +kernel) (by decide +kernel), ⟨by decide +kernel, by decide +kernel, by decide +kernel⟩, by decide, by decide +kernel⟩
theorem im_X7_walk : Cond.instanceMethod yX7_walk ∈ tbG := mg 871 (by decide +kernel) (by decide +kernel)
theorem se_X7_walk : Cond.selects yX7_walk.cls yX7_walk yX7_walk ∈ tbG := mg 872 (by decide +kernel) (by decide +kernel)
theorem mo_X7_draw : MO m_X7_draw 1 := ⟨mg 52 (by decide +kernel) (by decide +kernel), mg 892 (by decide +kernel) (by decide +kernel), ⟨by decide +kernel, by decide +kernel, by decide +kernel⟩, by decide, by decide +kernel⟩
theorem im_X7_draw : Cond.instanceMethod yX7_draw ∈ tbG := mg 891 (by decide +kernel) (by decide +kernel)
theorem se_X7_draw : Cond.selects yX7_draw.cls yX7_draw yX7_draw ∈ tbG := mg 31 (by decide +kernel) (by decide +kernel)
theorem mo_X7_frameNow : MO m_X7_frameNow 1 := ⟨mg 52 (by decide +kernel) (by decide +kernel), mg 888 (by decide +kernel) (by decide +kernel), ⟨by decide +kernel, by decide +kernel, by decide +kernel⟩, by decide, by decide +kernel⟩
theorem im_X7_frameNow : Cond.instanceMethod yX7_frameNow ∈ tbG := mg 887 (by decide +kernel) (by decide +kernel)
theorem se_X7_frameNow : Cond.selects yX7_frameNow.cls yX7_frameNow yX7_frameNow ∈ tbG := mg 30 (by decide +kernel) (by decide +kernel)
theorem mo_X7_isSlots : MO m_X7_isSlots 1 := ⟨mg 52 (by decide +kernel) (by decide +kernel), mg 884 (by decide +kernel) (by decide +kernel), ⟨by decide +kernel, by decide +kernel, by decide +kernel⟩, by decide, by decide +kernel⟩
theorem sm_X7_isSlots : Cond.static yX7_isSlots ∈ tbG := mg 883 (by decide +kernel) (by decide +kernel)
theorem mo_X7_frame : MO m_X7_frame 1 := ⟨mg 52 (by decide +kernel) (by decide +kernel), mg 881 (by decide +kernel) (by decide +kernel), ⟨by decide +kernel, by decide +kernel, by decide +kernel⟩, by decide, by decide +kernel⟩
theorem im_X7_frame : Cond.instanceMethod yX7_frame ∈ tbG := mg 879 (by decide +kernel) (by decide +kernel)
theorem se_X7_frame : Cond.selects yX7_frame.cls yX7_frame yX7_frame ∈ tbG := mg 880 (by decide +kernel) (by decide +kernel)
theorem mo_X7_nextSize : MO m_X7_nextSize 3 := ⟨mg 52 (by decide +kernel) (by decide +kernel), mg 908 (by decide +kernel) (by decide +kernel), ⟨by decide +kernel, by decide +kernel, by decide +kernel⟩, by decide, by decide +kernel⟩
theorem im_X7_nextSize : Cond.instanceMethod yX7_nextSize ∈ tbG := mg 907 (by decide +kernel) (by decide +kernel)
theorem se_X7_nextSize : Cond.selects yX7_nextSize.cls yX7_nextSize yX7_nextSize ∈ tbG := mg 33 (by decide +kernel) (by decide +kernel)
theorem mo_X7_roundsNow : MO m_X7_roundsNow 1 := ⟨mg 52 (by decide +kernel) (by decide +kernel), mg 904 (by decide +kernel) (by decide +kernel), ⟨by decide +kernel, by decide +kernel, by decide +kernel⟩, by decide, by decide +kernel⟩
theorem im_X7_roundsNow : Cond.instanceMethod yX7_roundsNow ∈ tbG := mg 903 (by decide +kernel) (by decide +kernel)
theorem se_X7_roundsNow : Cond.selects yX7_roundsNow.cls yX7_roundsNow yX7_roundsNow ∈ tbG := mg 32 (by decide +kernel) (by decide +kernel)
theorem mo_X7_rounds : MO m_X7_rounds 1 := ⟨mg 52 (by decide +kernel) (by decide +kernel), mg 900 (by decide +kernel) (by decide +kernel), ⟨by decide +kernel, by decide +kernel, by decide +kernel⟩, by decide, by decide +kernel⟩
theorem im_X7_rounds : Cond.instanceMethod yX7_rounds ∈ tbG := mg 898 (by decide +kernel) (by decide +kernel)
theorem se_X7_rounds : Cond.selects yX7_rounds.cls yX7_rounds yX7_rounds ∈ tbG := mg 899 (by decide +kernel) (by decide +kernel)
theorem mo_X7_type : MO m_X7_type 1 := ⟨mg 52 (by decide +kernel) (by decide +kernel), mg 912 (by decide +kernel) (by decide +kernel), ⟨by decide +kernel, by decide +kernel, by decide +kernel⟩, by decide, by decide +kernel⟩
theorem im_X7_type : Cond.instanceMethod yX7_type ∈ tbG := mg 910 (by decide +kernel) (by decide +kernel)
theorem se_X7_type : Cond.selects yX7_type.cls yX7_type yX7_type ∈ tbG := mg 911 (by decide +kernel) (by decide +kernel)
theorem mo_X7_clearText : MO m_X7_clearText 0 := ⟨mg 52 (by decide +kernel) (by decide +kernel), mg 916 (by decide +kernel) (by decide +kernel), ⟨by decide +kernel, by decide +kernel, by decide +kernel⟩, by decide, by decide +kernel⟩
theorem im_X7_clearText : Cond.instanceMethod yX7_clearText ∈ tbG := mg 914 (by decide +kernel) (by decide +kernel)
theorem se_X7_clearText : Cond.selects yX7_clearText.cls yX7_clearText yX7_clearText ∈ tbG := mg 915 (by decide +kernel) (by decide +kernel)
theorem mo_X7_sees : MO m_X7_sees 2 := ⟨mg 52 (by decide +kernel) (by decide +kernel), mg 936 (by decide +kernel) (by decide +kernel), ⟨by decide +kernel, by decide +kernel, by decide +kernel⟩, by decide, by decide +kernel⟩
theorem im_X7_sees : Cond.instanceMethod yX7_sees ∈ tbG := mg 935 (by decide +kernel) (by decide +kernel)
theorem se_X7_sees : Cond.selects yX7_sees.cls yX7_sees yX7_sees ∈ tbG := mg 37 (by decide +kernel) (by decide +kernel)
theorem mo_X7_takes : MO m_X7_takes 1 := ⟨mg 52 (by decide +kernel) (by decide +kernel), mg 940 (by decide +kernel) (by decide +kernel), ⟨by decide +kernel, by decide +kernel, by decide +kernel⟩, by decide, by decide +kernel⟩
theorem im_X7_takes : Cond.instanceMethod yX7_takes ∈ tbG := mg 939 (by decide +kernel) (by decide +kernel)
theorem se_X7_takes : Cond.selects yX7_takes.cls yX7_takes yX7_takes ∈ tbG := mg 38 (by decide +kernel) (by decide +kernel)
theorem mo_X7_number : MO m_X7_number 2 := ⟨mg 52 (by decide +kernel) (by decide +kernel), mg 932 (by decide +kernel) (by decide +kernel), ⟨by decide +kernel, by decide +kernel, by decide +kernel⟩, by decide, by decide +kernel⟩
theorem im_X7_number : Cond.instanceMethod yX7_number ∈ tbG := mg 931 (by decide +kernel) (by decide +kernel)
theorem se_X7_number : Cond.selects yX7_number.cls yX7_number yX7_number ∈ tbG := mg 36 (by decide +kernel) (by decide +kernel)
theorem mo_X7_readOrder : MO m_X7_readOrder 0 := ⟨mg 52 (by decide +kernel) (by decide +kernel), mg 928 (by decide +kernel) (by decide +kernel), ⟨by decide +kernel, by decide +kernel, by decide +kernel⟩, by decide, by decide +kernel⟩
theorem im_X7_readOrder : Cond.instanceMethod yX7_readOrder ∈ tbG := mg 927 (by decide +kernel) (by decide +kernel)
theorem se_X7_readOrder : Cond.selects yX7_readOrder.cls yX7_readOrder yX7_readOrder ∈ tbG := mg 35 (by decide +kernel) (by decide +kernel)
theorem mo_X7_readText : MO m_X7_readText 0 := ⟨mg 52 (by decide +kernel) (by decide +kernel), mg 924 (by decide +kernel) (by decide +kernel), ⟨by decide +kernel, by decide +kernel, by decide +kernel⟩, by decide, by decide +kernel⟩
theorem im_X7_readText : Cond.instanceMethod yX7_readText ∈ tbG := mg 923 (by decide +kernel) (by decide +kernel)
theorem se_X7_readText : Cond.selects yX7_readText.cls yX7_readText yX7_readText ∈ tbG := mg 34 (by decide +kernel) (by decide +kernel)
theorem mo_X7_whyNot : MO m_X7_whyNot 2 := ⟨mg 52 (by decide +kernel) (by decide +kernel), mg 944 (by decide +kernel) (by decide +kernel), ⟨by decide +kernel, by decide +kernel, by decide +kernel⟩, by decide, by decide +kernel⟩
theorem im_X7_whyNot : Cond.instanceMethod yX7_whyNot ∈ tbG := mg 943 (by decide +kernel) (by decide +kernel)
theorem se_X7_whyNot : Cond.selects yX7_whyNot.cls yX7_whyNot yX7_whyNot ∈ tbG := mg 39 (by decide +kernel) (by decide +kernel)
theorem mo_X7_carryOut : MO m_X7_carryOut 2 := ⟨mg 52 (by decide +kernel) (by decide +kernel), mg 948 (by decide +kernel) (by decide +kernel), ⟨by decide +kernel, by decide +kernel, by decide +kernel⟩, by decide, by decide +kernel⟩
theorem im_X7_carryOut : Cond.instanceMethod yX7_carryOut ∈ tbG := mg 947 (by decide +kernel) (by decide +kernel)
theorem se_X7_carryOut : Cond.selects yX7_carryOut.cls yX7_carryOut yX7_carryOut ∈ tbG := mg 40 (by decide +kernel) (by decide +kernel)
theorem mo_X7_perform : MO m_X7_perform 0 := ⟨mg 52 (by decide +kernel) (by decide +kernel), mg 920 (by decide +kernel) (by decide +kernel), ⟨by decide +kernel, by decide +kernel, by decide +kernel⟩, by decide, by decide +kernel⟩
theorem im_X7_perform : Cond.instanceMethod yX7_perform ∈ tbG := mg 918 (by decide +kernel) (by decide +kernel)
theorem se_X7_perform : Cond.selects yX7_perform.cls yX7_perform yX7_perform ∈ tbG := mg 919 (by decide +kernel) (by decide +kernel)
theorem mo_X7_card : MO m_X7_card 1 := ⟨mg 52 (by decide +kernel) (by decide +kernel), mg 952 (by decide +kernel) (by decide +kernel), ⟨by decide +kernel, by decide +kernel, by decide +kernel⟩, by decide, by decide +kernel⟩
theorem im_X7_card : Cond.instanceMethod yX7_card ∈ tbG := mg 950 (by decide +kernel) (by decide +kernel)
theorem se_X7_card : Cond.selects yX7_card.cls yX7_card yX7_card ∈ tbG := mg 951 (by decide +kernel) (by decide +kernel)
theorem mo_X7_shares : MO m_X7_shares 1 := ⟨mg 52 (by decide +kernel) (by decide +kernel), mg 960 (by decide +kernel) (by decide +kernel), ⟨by decide +kernel, by decide +kernel, by decide +kernel⟩, by decide, by decide +kernel⟩
theorem im_X7_shares : Cond.instanceMethod yX7_shares ∈ tbG := mg 959 (by decide +kernel) (by decide +kernel)
theorem se_X7_shares : Cond.selects yX7_shares.cls yX7_shares yX7_shares ∈ tbG := mg 41 (by decide +kernel) (by decide +kernel)
theorem mo_X7_ofCard : MO m_X7_ofCard 2 := ⟨mg 52 (by decide +kernel) (by decide +kernel), mg 956 (by decide +kernel) (by decide +kernel), ⟨by decide +kernel, by decide +kernel, by decide +kernel⟩, by decide, by decide +kernel⟩
theorem im_X7_ofCard : Cond.instanceMethod yX7_ofCard ∈ tbG := mg 954 (by decide +kernel) (by decide +kernel)
theorem se_X7_ofCard : Cond.selects yX7_ofCard.cls yX7_ofCard yX7_ofCard ∈ tbG := mg 955 (by decide +kernel) (by decide +kernel)
theorem mo_X7_told : MO m_X7_told 1 := ⟨mg 52 (by decide +kernel) (by decide +kernel), mg 964 (by decide +kernel) (by decide +kernel), ⟨by decide +kernel, by decide +kernel, by decide +kernel⟩, by decide, by decide +kernel⟩
theorem im_X7_told : Cond.instanceMethod yX7_told ∈ tbG := mg 962 (by decide +kernel) (by decide +kernel)
theorem se_X7_told : Cond.selects yX7_told.cls yX7_told yX7_told ∈ tbG := mg 963 (by decide +kernel) (by decide +kernel)
theorem mo_X7_leaving : MO m_X7_leaving 0 := ⟨mg 52 (by decide +kernel) (by decide +kernel), mg 972 (by decide +kernel) (by decide +kernel), ⟨by decide +kernel, by decide +kernel, by decide +kernel⟩, by decide, by decide +kernel⟩
theorem im_X7_leaving : Cond.instanceMethod yX7_leaving ∈ tbG := mg 971 (by decide +kernel) (by decide +kernel)
theorem se_X7_leaving : Cond.selects yX7_leaving.cls yX7_leaving yX7_leaving ∈ tbG := mg 42 (by decide +kernel) (by decide +kernel)
theorem mo_X7_total : MO m_X7_total 1 := ⟨mg 52 (by decide +kernel) (by decide +kernel), mg 968 (by decide +kernel) (by decide +kernel), ⟨by decide +kernel, by decide +kernel, by decide +kernel⟩, by decide, by decide +kernel⟩
theorem im_X7_total : Cond.instanceMethod yX7_total ∈ tbG := mg 966 (by decide +kernel) (by decide +kernel)
theorem se_X7_total : Cond.selects yX7_total.cls yX7_total yX7_total ∈ tbG := mg 967 (by decide +kernel) (by decide +kernel)
theorem mo_X7_withBeginning : MO m_X7_withBeginning 2 := ⟨mg 52 (by decide +kernel) (by decide +kernel), mg 980 (by decide +kernel) (by decide +kernel), ⟨by decide +kernel, by decide +kernel, by decide +kernel⟩, by decide, by decide +kernel⟩
theorem im_X7_withBeginning : Cond.instanceMethod yX7_withBeginning ∈ tbG := mg 979 (by decide +kernel) (by decide +kernel)
theorem se_X7_withBeginning : Cond.selects yX7_withBeginning.cls yX7_withBeginning yX7_withBeginning ∈ tbG := mg 43 (by decide +kernel) (by decide +kernel)
theorem mo_X7_count : MO m_X7_count 2 := ⟨mg 52 (by decide +kernel) (by decide +kernel), mg 976 (by decide +kernel) (by decide +kernel), ⟨by decide +kernel, by decide +kernel, by decide +kernel⟩, by decide, by decide +kernel⟩
theorem im_X7_count : Cond.instanceMethod yX7_count ∈ tbG := mg 974 (by decide +kernel) (by decide +kernel)
theorem se_X7_count : Cond.selects yX7_count.cls yX7_count yX7_count ∈ tbG := mg 975 (by decide +kernel) (by decide +kernel)
theorem mo_X7_walkTakes : MO m_X7_walkTakes 2 := ⟨mg 52 (by decide +kernel) (by decide +kernel), mg 984 (by decide +kernel) (by decide +kernel), ⟨by decide +kernel, by decide +kernel, by decide +kernel⟩, by decide, by decide +kernel⟩
theorem im_X7_walkTakes : Cond.instanceMethod yX7_walkTakes ∈ tbG := mg 982 (by decide +kernel) (by decide +kernel)
theorem se_X7_walkTakes : Cond.selects yX7_walkTakes.cls yX7_walkTakes yX7_walkTakes ∈ tbG := mg 983 (by decide +kernel) (by decide +kernel)
theorem mo_X7_roundsTake : MO m_X7_roundsTake 2 := ⟨mg 52 (by decide +kernel) (by decide +kernel), mg 988 (by decide +kernel) (by decide +kernel), ⟨by decide +kernel, by decide +kernel, by decide +kernel⟩, by decide, by decide +kernel⟩
theorem im_X7_roundsTake : Cond.instanceMethod yX7_roundsTake ∈ tbG := mg 986 (by decide +kernel) (by decide +kernel)
theorem se_X7_roundsTake : Cond.selects yX7_roundsTake.cls yX7_roundsTake yX7_roundsTake ∈ tbG := mg 987 (by decide +kernel) (by decide +kernel)
theorem mo_X7_bestFrame : MO m_X7_bestFrame 0 := ⟨mg 52 (by decide +kernel) (by decide +kernel), mg 992 (by decide +kernel) (by decide +kernel), ⟨by decide +kernel, by decide +kernel, by decide +kernel⟩, by decide, by decide +kernel⟩
theorem im_X7_bestFrame : Cond.instanceMethod yX7_bestFrame ∈ tbG := mg 990 (by decide +kernel) (by decide +kernel)
theorem se_X7_bestFrame : Cond.selects yX7_bestFrame.cls yX7_bestFrame yX7_bestFrame ∈ tbG := mg 991 (by decide +kernel) (by decide +kernel)
theorem mo_X7_thickest : MO m_X7_thickest 1 := ⟨mg 52 (by decide +kernel) (by decide +kernel), mg 996 (by decide +kernel) (by decide +kernel), ⟨by decide +kernel, by decide +kernel, by decide +kernel⟩, by decide, by decide +kernel⟩
theorem im_X7_thickest : Cond.instanceMethod yX7_thickest ∈ tbG := mg 994 (by decide +kernel) (by decide +kernel)
theorem se_X7_thickest : Cond.selects yX7_thickest.cls yX7_thickest yX7_thickest ∈ tbG := mg 995 (by decide +kernel) (by decide +kernel)
theorem ii_X6 : Cond.initialized (cR 6) ∈ tbG := mg 45 (by decide +kernel) (by decide +kernel)
theorem ii_X2 : Cond.initialized (cR 2) ∈ tbG := mg 46 (by decide +kernel) (by decide +kernel)
theorem ii_X1 : Cond.initialized (cR 1) ∈ tbG := mg 47 (by decide +kernel) (by decide +kernel)
theorem ii_X5 : Cond.initialized (cR 5) ∈ tbG := mg 48 (by decide +kernel) (by decide +kernel)
theorem ii_X3 : Cond.initialized (cR 3) ∈ tbG := mg 49 (by decide +kernel) (by decide +kernel)
theorem ii_X0 : Cond.initialized (cR 0) ∈ tbG := mg 50 (by decide +kernel) (by decide +kernel)
theorem ii_X4 : Cond.initialized (cR 4) ∈ tbG := mg 51 (by decide +kernel) (by decide +kernel)
theorem ii_X7 : Cond.initialized (cR 7) ∈ tbG := mg 52 (by decide +kernel) (by decide +kernel)
theorem ii_System : Cond.initialized "java/lang/System" ∈ tbG := mg 53 (by decide +kernel) (by decide +kernel)
theorem ii_Math : Cond.initialized "java/lang/Math" ∈ tbG := mg 54 (by decide +kernel) (by decide +kernel)
theorem kl_L_7 : Cond.classLink RL 7 (cR 6) ∈ tbG := mg 55 (by decide +kernel) (by decide +kernel)
theorem it_X6 : Cond.instantiable (cR 6) (cN 6) ∈ tbG := mg 56 (by decide +kernel) (by decide +kernel)
theorem ml_L_9 : Cond.methodLink RL 9 yX6_init ∈ tbG := mg 57 (by decide +kernel) (by decide +kernel)
theorem ml_X6_1 : Cond.methodLink RX6 1 objectInit ∈ tbG := mg 60 (by decide +kernel) (by decide +kernel)
theorem kl_X6_7 : Cond.classLink RX6 7 (cR 2) ∈ tbG := mg 63 (by decide +kernel) (by decide +kernel)
theorem it_X2 : Cond.instantiable (cR 2) (cN 2) ∈ tbG := mg 64 (by decide +kernel) (by decide +kernel)
theorem ml_X6_9 : Cond.methodLink RX6 9 yX2_init ∈ tbG := mg 65 (by decide +kernel) (by decide +kernel)
theorem ml_X2_3 : Cond.methodLink RX2 3 objectInit ∈ tbG := mg 68 (by decide +kernel) (by decide +kernel)
theorem kl_X2_9 : Cond.classLink RX2 9 (cR 1) ∈ tbG := mg 69 (by decide +kernel) (by decide +kernel)
theorem it_X1 : Cond.instantiable (cR 1) (cN 1) ∈ tbG := mg 70 (by decide +kernel) (by decide +kernel)
theorem nl_X2_11 : (RX2, 11, yX1_init, "PocketCards") ∈ nsL := by decide +kernel
theorem ml_X1_3 : Cond.methodLink RX1 3 objectInit ∈ tbG := mg 74 (by decide +kernel) (by decide +kernel)
theorem fl_X1_9 : Cond.fieldLink RX1 9 (cU 1 0).1 (cU 1 0).2.1 (cU 1 0).2.2.1 ∈ tbG := mg 75 (by decide +kernel) (by decide +kernel)
theorem fl_X1_15 : Cond.fieldLink RX1 15 (cU 1 1).1 (cU 1 1).2.1 (cU 1 1).2.2.1 ∈ tbG := mg 76 (by decide +kernel) (by decide +kernel)
theorem fl_X1_18 : Cond.fieldLink RX1 18 (cU 1 2).1 (cU 1 2).2.1 (cU 1 2).2.2.1 ∈ tbG := mg 77 (by decide +kernel) (by decide +kernel)
theorem fl_X1_21 : Cond.fieldLink RX1 21 (cU 1 3).1 (cU 1 3).2.1 (cU 1 3).2.2.1 ∈ tbG := mg 78 (by decide +kernel) (by decide +kernel)
theorem fl_X1_24 : Cond.fieldLink RX1 24 (cU 1 4).1 (cU 1 4).2.1 (cU 1 4).2.2.1 ∈ tbG := mg 79 (by decide +kernel) (by decide +kernel)
theorem fl_X1_28 : Cond.fieldLink RX1 28 (cU 1 5).1 (cU 1 5).2.1 (cU 1 5).2.2.1 ∈ tbG := mg 80 (by decide +kernel) (by decide +kernel)
theorem fl_X1_31 : Cond.fieldLink RX1 31 (cU 1 6).1 (cU 1 6).2.1 (cU 1 6).2.2.1 ∈ tbG := mg 81 (by decide +kernel) (by decide +kernel)
theorem ac_int : Cond.arrayClass .int ∈ tbG := mg 97 (by decide +kernel) (by decide +kernel)
theorem ac_boolean : Cond.arrayClass .boolean ∈ tbG := mg 98 (by decide +kernel) (by decide +kernel)
theorem kl_X2_18 : Cond.classLink RX2 18 (cR 5) ∈ tbG := mg 99 (by decide +kernel) (by decide +kernel)
theorem it_X5 : Cond.instantiable (cR 5) (cN 5) ∈ tbG := mg 100 (by decide +kernel) (by decide +kernel)
theorem nl_X2_20 : (RX2, 20, yX5_init, "PocketCards") ∈ nsL := by decide +kernel
theorem ml_X5_3 : Cond.methodLink RX5 3 objectInit ∈ tbG := mg 104 (by decide +kernel) (by decide +kernel)
theorem fl_X5_9 : Cond.fieldLink RX5 9 (cU 5 0).1 (cU 5 0).2.1 (cU 5 0).2.2.1 ∈ tbG := mg 105 (by decide +kernel) (by decide +kernel)
theorem fl_X5_15 : Cond.fieldLink RX5 15 (cU 5 1).1 (cU 5 1).2.1 (cU 5 1).2.2.1 ∈ tbG := mg 106 (by decide +kernel) (by decide +kernel)
theorem kl_X2_25 : Cond.classLink RX2 25 (cR 3) ∈ tbG := mg 112 (by decide +kernel) (by decide +kernel)
theorem it_X3 : Cond.instantiable (cR 3) (cN 3) ∈ tbG := mg 113 (by decide +kernel) (by decide +kernel)
theorem nl_X2_27 : (RX2, 27, yX3_init, "PocketCards") ∈ nsL := by decide +kernel
theorem ml_X3_3 : Cond.methodLink RX3 3 objectInit ∈ tbG := mg 117 (by decide +kernel) (by decide +kernel)
theorem fl_X3_9 : Cond.fieldLink RX3 9 (cU 3 0).1 (cU 3 0).2.1 (cU 3 0).2.2.1 ∈ tbG := mg 118 (by decide +kernel) (by decide +kernel)
theorem fl_X2_109 : Cond.fieldLink RX2 109 (cU 3 0).1 (cU 3 0).2.1 (cU 3 0).2.2.1 ∈ tbG := mg 119 (by decide +kernel) (by decide +kernel)
theorem fl_X6_191 : Cond.fieldLink RX6 191 (cU 3 0).1 (cU 3 0).2.1 (cU 3 0).2.2.1 ∈ tbG := mg 120 (by decide +kernel) (by decide +kernel)
theorem fl_X3_15 : Cond.fieldLink RX3 15 (cU 3 1).1 (cU 3 1).2.1 (cU 3 1).2.2.1 ∈ tbG := mg 121 (by decide +kernel) (by decide +kernel)
theorem fl_X2_179 : Cond.fieldLink RX2 179 (cU 3 1).1 (cU 3 1).2.1 (cU 3 1).2.2.1 ∈ tbG := mg 122 (by decide +kernel) (by decide +kernel)
theorem fl_X6_208 : Cond.fieldLink RX6 208 (cU 3 1).1 (cU 3 1).2.1 (cU 3 1).2.2.1 ∈ tbG := mg 123 (by decide +kernel) (by decide +kernel)
theorem fl_X3_18 : Cond.fieldLink RX3 18 (cU 3 2).1 (cU 3 2).2.1 (cU 3 2).2.2.1 ∈ tbG := mg 124 (by decide +kernel) (by decide +kernel)
theorem fl_X2_130 : Cond.fieldLink RX2 130 (cU 3 2).1 (cU 3 2).2.1 (cU 3 2).2.2.1 ∈ tbG := mg 125 (by decide +kernel) (by decide +kernel)
theorem fl_X3_21 : Cond.fieldLink RX3 21 (cU 3 3).1 (cU 3 3).2.1 (cU 3 3).2.2.1 ∈ tbG := mg 126 (by decide +kernel) (by decide +kernel)
theorem fl_X2_145 : Cond.fieldLink RX2 145 (cU 3 3).1 (cU 3 3).2.1 (cU 3 3).2.2.1 ∈ tbG := mg 127 (by decide +kernel) (by decide +kernel)
theorem fl_X6_206 : Cond.fieldLink RX6 206 (cU 3 3).1 (cU 3 3).2.1 (cU 3 3).2.2.1 ∈ tbG := mg 128 (by decide +kernel) (by decide +kernel)
theorem fl_X3_24 : Cond.fieldLink RX3 24 (cU 3 4).1 (cU 3 4).2.1 (cU 3 4).2.2.1 ∈ tbG := mg 129 (by decide +kernel) (by decide +kernel)
theorem fl_X2_139 : Cond.fieldLink RX2 139 (cU 3 4).1 (cU 3 4).2.1 (cU 3 4).2.2.1 ∈ tbG := mg 130 (by decide +kernel) (by decide +kernel)
theorem fl_X6_197 : Cond.fieldLink RX6 197 (cU 3 4).1 (cU 3 4).2.1 (cU 3 4).2.2.1 ∈ tbG := mg 131 (by decide +kernel) (by decide +kernel)
theorem fl_X3_27 : Cond.fieldLink RX3 27 (cU 3 5).1 (cU 3 5).2.1 (cU 3 5).2.2.1 ∈ tbG := mg 132 (by decide +kernel) (by decide +kernel)
theorem fl_X2_112 : Cond.fieldLink RX2 112 (cU 3 5).1 (cU 3 5).2.1 (cU 3 5).2.2.1 ∈ tbG := mg 133 (by decide +kernel) (by decide +kernel)
theorem fl_X6_194 : Cond.fieldLink RX6 194 (cU 3 5).1 (cU 3 5).2.1 (cU 3 5).2.2.1 ∈ tbG := mg 134 (by decide +kernel) (by decide +kernel)
theorem fl_X3_30 : Cond.fieldLink RX3 30 (cU 3 6).1 (cU 3 6).2.1 (cU 3 6).2.2.1 ∈ tbG := mg 135 (by decide +kernel) (by decide +kernel)
theorem fl_X2_170 : Cond.fieldLink RX2 170 (cU 3 6).1 (cU 3 6).2.1 (cU 3 6).2.2.1 ∈ tbG := mg 136 (by decide +kernel) (by decide +kernel)
theorem fl_X3_33 : Cond.fieldLink RX3 33 (cU 3 7).1 (cU 3 7).2.1 (cU 3 7).2.2.1 ∈ tbG := mg 137 (by decide +kernel) (by decide +kernel)
theorem fl_X2_121 : Cond.fieldLink RX2 121 (cU 3 7).1 (cU 3 7).2.1 (cU 3 7).2.2.1 ∈ tbG := mg 138 (by decide +kernel) (by decide +kernel)
theorem fl_X2_12 : Cond.fieldLink RX2 12 (cU 2 0).1 (cU 2 0).2.1 (cU 2 0).2.2.1 ∈ tbG := mg 156 (by decide +kernel) (by decide +kernel)
theorem fl_X6_122 : Cond.fieldLink RX6 122 (cU 2 0).1 (cU 2 0).2.1 (cU 2 0).2.2.1 ∈ tbG := mg 157 (by decide +kernel) (by decide +kernel)
theorem fl_X2_21 : Cond.fieldLink RX2 21 (cU 2 1).1 (cU 2 1).2.1 (cU 2 1).2.2.1 ∈ tbG := mg 158 (by decide +kernel) (by decide +kernel)
theorem fl_X6_150 : Cond.fieldLink RX6 150 (cU 2 1).1 (cU 2 1).2.1 (cU 2 1).2.2.1 ∈ tbG := mg 159 (by decide +kernel) (by decide +kernel)
theorem fl_X2_28 : Cond.fieldLink RX2 28 (cU 2 2).1 (cU 2 2).2.1 (cU 2 2).2.2.1 ∈ tbG := mg 160 (by decide +kernel) (by decide +kernel)
theorem fl_X6_179 : Cond.fieldLink RX6 179 (cU 2 2).1 (cU 2 2).2.1 (cU 2 2).2.2.1 ∈ tbG := mg 161 (by decide +kernel) (by decide +kernel)
theorem fl_X2_32 : Cond.fieldLink RX2 32 (cU 2 3).1 (cU 2 3).2.1 (cU 2 3).2.2.1 ∈ tbG := mg 162 (by decide +kernel) (by decide +kernel)
theorem fl_X2_36 : Cond.fieldLink RX2 36 (cU 2 4).1 (cU 2 4).2.1 (cU 2 4).2.2.1 ∈ tbG := mg 163 (by decide +kernel) (by decide +kernel)
theorem fl_X6_169 : Cond.fieldLink RX6 169 (cU 2 4).1 (cU 2 4).2.1 (cU 2 4).2.2.1 ∈ tbG := mg 164 (by decide +kernel) (by decide +kernel)
theorem fl_X2_40 : Cond.fieldLink RX2 40 (cU 2 5).1 (cU 2 5).2.1 (cU 2 5).2.2.1 ∈ tbG := mg 165 (by decide +kernel) (by decide +kernel)
theorem fl_X6_200 : Cond.fieldLink RX6 200 (cU 2 5).1 (cU 2 5).2.1 (cU 2 5).2.2.1 ∈ tbG := mg 166 (by decide +kernel) (by decide +kernel)
theorem fl_X2_43 : Cond.fieldLink RX2 43 (cU 2 6).1 (cU 2 6).2.1 (cU 2 6).2.2.1 ∈ tbG := mg 167 (by decide +kernel) (by decide +kernel)
theorem kl_X6_29 : Cond.classLink RX6 29 (cR 0) ∈ tbG := mg 183 (by decide +kernel) (by decide +kernel)
theorem it_X0 : Cond.instantiable (cR 0) (cN 0) ∈ tbG := mg 184 (by decide +kernel) (by decide +kernel)
theorem ml_X6_31 : Cond.methodLink RX6 31 yX0_init ∈ tbG := mg 185 (by decide +kernel) (by decide +kernel)
theorem ml_X0_3 : Cond.methodLink RX0 3 objectInit ∈ tbG := mg 188 (by decide +kernel) (by decide +kernel)
theorem kl_X0_9 : Cond.classLink RX0 9 (cR 2) ∈ tbG := mg 189 (by decide +kernel) (by decide +kernel)
theorem ml_X0_21 : Cond.methodLink RX0 21 yX2_init ∈ tbG := mg 191 (by decide +kernel) (by decide +kernel)
theorem fl_X0_11 : Cond.fieldLink RX0 11 (cU 0 0).1 (cU 0 0).2.1 (cU 0 0).2.2.1 ∈ tbG := mg 192 (by decide +kernel) (by decide +kernel)
theorem fl_X0_17 : Cond.fieldLink RX0 17 (cU 0 1).1 (cU 0 1).2.1 (cU 0 1).2.2.1 ∈ tbG := mg 193 (by decide +kernel) (by decide +kernel)
theorem kl_X6_36 : Cond.classLink RX6 36 (cR 4) ∈ tbG := mg 199 (by decide +kernel) (by decide +kernel)
theorem it_X4 : Cond.instantiable (cR 4) (cN 4) ∈ tbG := mg 200 (by decide +kernel) (by decide +kernel)
theorem nl_X6_38 : (RX6, 38, yX4_init, "PocketCards") ∈ nsL := by decide +kernel
theorem ml_X4_3 : Cond.methodLink RX4 3 objectInit ∈ tbG := mg 204 (by decide +kernel) (by decide +kernel)
theorem fl_X4_9 : Cond.fieldLink RX4 9 (cU 4 0).1 (cU 4 0).2.1 (cU 4 0).2.2.1 ∈ tbG := mg 205 (by decide +kernel) (by decide +kernel)
theorem fl_X4_15 : Cond.fieldLink RX4 15 (cU 4 1).1 (cU 4 1).2.1 (cU 4 1).2.2.1 ∈ tbG := mg 206 (by decide +kernel) (by decide +kernel)
theorem fl_X4_19 : Cond.fieldLink RX4 19 (cU 4 2).1 (cU 4 2).2.1 (cU 4 2).2.2.1 ∈ tbG := mg 207 (by decide +kernel) (by decide +kernel)
theorem fl_X4_22 : Cond.fieldLink RX4 22 (cU 4 3).1 (cU 4 3).2.1 (cU 4 3).2.2.1 ∈ tbG := mg 208 (by decide +kernel) (by decide +kernel)
theorem fl_X4_26 : Cond.fieldLink RX4 26 (cU 4 4).1 (cU 4 4).2.1 (cU 4 4).2.2.1 ∈ tbG := mg 209 (by decide +kernel) (by decide +kernel)
theorem fl_X4_29 : Cond.fieldLink RX4 29 (cU 4 5).1 (cU 4 5).2.1 (cU 4 5).2.2.1 ∈ tbG := mg 210 (by decide +kernel) (by decide +kernel)
theorem fl_X4_32 : Cond.fieldLink RX4 32 (cU 4 6).1 (cU 4 6).2.1 (cU 4 6).2.2.1 ∈ tbG := mg 211 (by decide +kernel) (by decide +kernel)
theorem ac_char : Cond.arrayClass .char ∈ tbG := mg 227 (by decide +kernel) (by decide +kernel)
theorem fl_X6_10 : Cond.fieldLink RX6 10 (cU 6 0).1 (cU 6 0).2.1 (cU 6 0).2.2.1 ∈ tbG := mg 228 (by decide +kernel) (by decide +kernel)
theorem fl_X6_16 : Cond.fieldLink RX6 16 (cU 6 1).1 (cU 6 1).2.1 (cU 6 1).2.2.1 ∈ tbG := mg 229 (by decide +kernel) (by decide +kernel)
theorem fl_X6_19 : Cond.fieldLink RX6 19 (cU 6 2).1 (cU 6 2).2.1 (cU 6 2).2.2.1 ∈ tbG := mg 230 (by decide +kernel) (by decide +kernel)
theorem fl_X6_22 : Cond.fieldLink RX6 22 (cU 6 3).1 (cU 6 3).2.1 (cU 6 3).2.2.1 ∈ tbG := mg 231 (by decide +kernel) (by decide +kernel)
theorem fl_X6_25 : Cond.fieldLink RX6 25 (cU 6 4).1 (cU 6 4).2.1 (cU 6 4).2.2.1 ∈ tbG := mg 232 (by decide +kernel) (by decide +kernel)
theorem fl_X6_32 : Cond.fieldLink RX6 32 (cU 6 5).1 (cU 6 5).2.1 (cU 6 5).2.2.1 ∈ tbG := mg 233 (by decide +kernel) (by decide +kernel)
theorem fl_X6_39 : Cond.fieldLink RX6 39 (cU 6 6).1 (cU 6 6).2.1 (cU 6 6).2.2.1 ∈ tbG := mg 234 (by decide +kernel) (by decide +kernel)
theorem ml_L_13 : Cond.methodLink RL 13 yX6_put ∈ tbG := mg 250 (by decide +kernel) (by decide +kernel)
theorem ml_X6_43 : Cond.methodLink RX6 43 yX2_copyFrom ∈ tbG := mg 254 (by decide +kernel) (by decide +kernel)
theorem ml_X2_46 : Cond.methodLink RX2 46 yX1_copyFrom ∈ tbG := mg 258 (by decide +kernel) (by decide +kernel)
theorem ml_X2_50 : Cond.methodLink RX2 50 yX5_copyFrom ∈ tbG := mg 262 (by decide +kernel) (by decide +kernel)
theorem ml_X5_19 : Cond.methodLink RX5 19 arraycopyName ∈ tbG := mg 266 (by decide +kernel) (by decide +kernel)
theorem ml_X2_53 : Cond.methodLink RX2 53 yX3_copyFrom ∈ tbG := mg 269 (by decide +kernel) (by decide +kernel)
theorem ml_X2_56 : Cond.methodLink RX2 56 arraycopyName ∈ tbG := mg 273 (by decide +kernel) (by decide +kernel)
theorem ml_X6_47 : Cond.methodLink RX6 47 yX2_putCard ∈ tbG := mg 274 (by decide +kernel) (by decide +kernel)
theorem ml_X2_62 : Cond.methodLink RX2 62 yX1_placeOf ∈ tbG := mg 278 (by decide +kernel) (by decide +kernel)
theorem ml_X2_66 : Cond.methodLink RX2 66 yX1_cards ∈ tbG := mg 282 (by decide +kernel) (by decide +kernel)
theorem ml_X2_70 : Cond.methodLink RX2 70 yX1_insert ∈ tbG := mg 286 (by decide +kernel) (by decide +kernel)
theorem ml_X1_55 : Cond.methodLink RX1 55 yX1_moveCard ∈ tbG := mg 290 (by decide +kernel) (by decide +kernel)
theorem ml_X6_51 : Cond.methodLink RX6 51 yX6_recorded ∈ tbG := mg 294 (by decide +kernel) (by decide +kernel)
theorem ml_X6_211 : Cond.methodLink RX6 211 yX0_add ∈ tbG := mg 298 (by decide +kernel) (by decide +kernel)
theorem ml_X0_22 : Cond.methodLink RX0 22 yX0_dropOldest ∈ tbG := mg 302 (by decide +kernel) (by decide +kernel)
theorem ml_X0_25 : Cond.methodLink RX0 25 yX2_copyFrom ∈ tbG := mg 306 (by decide +kernel) (by decide +kernel)
theorem ml_L_18 : Cond.methodLink RL 18 yX6_take ∈ tbG := mg 307 (by decide +kernel) (by decide +kernel)
theorem ml_X6_54 : Cond.methodLink RX6 54 yX2_takeCard ∈ tbG := mg 311 (by decide +kernel) (by decide +kernel)
theorem ml_X2_74 : Cond.methodLink RX2 74 yX1_removeAt ∈ tbG := mg 315 (by decide +kernel) (by decide +kernel)
theorem ml_X1_35 : Cond.methodLink RX1 35 yX1_isCard ∈ tbG := mg 319 (by decide +kernel) (by decide +kernel)
theorem ml_L_22 : Cond.methodLink RL 22 yX6_sleep ∈ tbG := mg 323 (by decide +kernel) (by decide +kernel)
theorem ml_X6_57 : Cond.methodLink RX6 57 yX2_sleepCard ∈ tbG := mg 327 (by decide +kernel) (by decide +kernel)
theorem ml_X2_77 : Cond.methodLink RX2 77 yX1_isAwake ∈ tbG := mg 331 (by decide +kernel) (by decide +kernel)
theorem ml_X2_81 : Cond.methodLink RX2 81 yX1_sleepAt ∈ tbG := mg 335 (by decide +kernel) (by decide +kernel)
theorem ml_X2_84 : Cond.methodLink RX2 84 yX1_awakeCards ∈ tbG := mg 339 (by decide +kernel) (by decide +kernel)
theorem ml_X1_49 : Cond.methodLink RX1 49 yX1_awakeWith ∈ tbG := mg 343 (by decide +kernel) (by decide +kernel)
theorem nl_X1_52 : (RX1, 52, yX6_firstBits, "PocketCards") ∈ nsL := by decide +kernel
theorem ml_L_26 : Cond.methodLink RL 26 yX6_wakeAll ∈ tbG := mg 350 (by decide +kernel) (by decide +kernel)
theorem ml_X6_60 : Cond.methodLink RX6 60 yX2_wakeCards ∈ tbG := mg 354 (by decide +kernel) (by decide +kernel)
theorem ml_X2_87 : Cond.methodLink RX2 87 yX1_wakeEach ∈ tbG := mg 358 (by decide +kernel) (by decide +kernel)
theorem ml_L_31 : Cond.methodLink RL 31 yX6_leave ∈ tbG := mg 362 (by decide +kernel) (by decide +kernel)
theorem ml_X6_64 : Cond.methodLink RX6 64 yX2_leaveBehind ∈ tbG := mg 366 (by decide +kernel) (by decide +kernel)
theorem ml_X2_90 : Cond.methodLink RX2 90 yX1_asksToGo ∈ tbG := mg 370 (by decide +kernel) (by decide +kernel)
theorem ml_X2_93 : Cond.methodLink RX2 93 yX1_leaveAt ∈ tbG := mg 374 (by decide +kernel) (by decide +kernel)
theorem ml_L_36 : Cond.methodLink RL 36 yX6_set ∈ tbG := mg 378 (by decide +kernel) (by decide +kernel)
theorem ml_X6_68 : Cond.methodLink RX6 68 yX2_setTo ∈ tbG := mg 382 (by decide +kernel) (by decide +kernel)
theorem ml_L_40 : Cond.methodLink RL 40 yX6_shuffle ∈ tbG := mg 386 (by decide +kernel) (by decide +kernel)
theorem ml_X6_71 : Cond.methodLink RX6 71 yX2_shuffleTo ∈ tbG := mg 390 (by decide +kernel) (by decide +kernel)
theorem ml_L_44 : Cond.methodLink RL 44 yX6_forget ∈ tbG := mg 394 (by decide +kernel) (by decide +kernel)
theorem ml_X6_74 : Cond.methodLink RX6 74 yX2_forgetTold ∈ tbG := mg 398 (by decide +kernel) (by decide +kernel)
theorem ml_X2_97 : Cond.methodLink RX2 97 yX5_names ∈ tbG := mg 402 (by decide +kernel) (by decide +kernel)
theorem ml_X2_100 : Cond.methodLink RX2 100 yX5_empty ∈ tbG := mg 406 (by decide +kernel) (by decide +kernel)
theorem ml_L_48 : Cond.methodLink RL 48 yX6_ask ∈ tbG := mg 410 (by decide +kernel) (by decide +kernel)
theorem ml_X6_77 : Cond.methodLink RX6 77 yX6_isBeginning ∈ tbG := mg 414 (by decide +kernel) (by decide +kernel)
theorem ml_X6_81 : Cond.methodLink RX6 81 yX2_askFor ∈ tbG := mg 417 (by decide +kernel) (by decide +kernel)
theorem ml_X2_103 : Cond.methodLink RX2 103 yX1_letAnswer ∈ tbG := mg 421 (by decide +kernel) (by decide +kernel)
theorem ml_X2_106 : Cond.methodLink RX2 106 yX2_hear ∈ tbG := mg 425 (by decide +kernel) (by decide +kernel)
theorem ml_X2_127 : Cond.methodLink RX2 127 yX1_firstAnswering ∈ tbG := mg 429 (by decide +kernel) (by decide +kernel)
theorem ml_X2_133 : Cond.methodLink RX2 133 yX1_nameAt ∈ tbG := mg 433 (by decide +kernel) (by decide +kernel)
theorem ml_X2_136 : Cond.methodLink RX2 136 yX1_differencesFrom ∈ tbG := mg 437 (by decide +kernel) (by decide +kernel)
theorem nl_X2_142 : (RX2, 142, yX6_firstOne, "PocketCards") ∈ nsL := by decide +kernel
theorem ml_X2_147 : Cond.methodLink RX2 147 yX5_add ∈ tbG := mg 444 (by decide +kernel) (by decide +kernel)
theorem ml_X2_150 : Cond.methodLink RX2 150 yX1_tellAt ∈ tbG := mg 448 (by decide +kernel) (by decide +kernel)
theorem ml_X2_115 : Cond.methodLink RX2 115 Lib.Math.max.name ∈ tbG := mg 452 (by decide +kernel) (by decide +kernel)
theorem ml_X2_124 : Cond.methodLink RX2 124 yX1_passAsk ∈ tbG := mg 455 (by decide +kernel) (by decide +kernel)
theorem ml_L_52 : Cond.methodLink RL 52 yX6_walk ∈ tbG := mg 459 (by decide +kernel) (by decide +kernel)
theorem ml_X6_84 : Cond.methodLink RX6 84 yX2_makeWalk ∈ tbG := mg 463 (by decide +kernel) (by decide +kernel)
theorem ml_X2_153 : Cond.methodLink RX2 153 yX2_walkFrom ∈ tbG := mg 467 (by decide +kernel) (by decide +kernel)
theorem nl_X2_157 : (RX2, 157, yX6_isBeginning, "PocketCards") ∈ nsL := by decide +kernel
theorem ml_X2_161 : Cond.methodLink RX2 161 yX2_askFor ∈ tbG := mg 471 (by decide +kernel) (by decide +kernel)
theorem nl_X2_164 : (RX2, 164, yX6_firstBits, "PocketCards") ∈ nsL := by decide +kernel
theorem ml_L_57 : Cond.methodLink RL 57 yX6_frame ∈ tbG := mg 473 (by decide +kernel) (by decide +kernel)
theorem ml_X6_88 : Cond.methodLink RX6 88 yX2_makeFrame ∈ tbG := mg 477 (by decide +kernel) (by decide +kernel)
theorem nl_X2_167 : (RX2, 167, yX6_isFrameSize, "PocketCards") ∈ nsL := by decide +kernel
theorem ml_X2_173 : Cond.methodLink RX2 173 yX2_drawSlots ∈ tbG := mg 484 (by decide +kernel) (by decide +kernel)
theorem ml_X2_182 : Cond.methodLink RX2 182 yX2_draw ∈ tbG := mg 488 (by decide +kernel) (by decide +kernel)
theorem co_X2_188 : Cond.constant RX2 188 (Int32.ofInt 1103515245) ∈ tbG := mg 492 (by decide +kernel) (by decide +kernel)
theorem co_X2_189 : Cond.constant RX2 189 (Int32.ofInt 2147483647) ∈ tbG := mg 493 (by decide +kernel) (by decide +kernel)
theorem co_X2_190 : Cond.constant RX2 190 (Int32.ofInt 65536) ∈ tbG := mg 494 (by decide +kernel) (by decide +kernel)
theorem ml_X2_185 : Cond.methodLink RX2 185 yX1_slotAt ∈ tbG := mg 495 (by decide +kernel) (by decide +kernel)
theorem ml_X2_176 : Cond.methodLink RX2 176 yX1_letAnswerIn ∈ tbG := mg 499 (by decide +kernel) (by decide +kernel)
theorem ml_L_61 : Cond.methodLink RL 61 yX6_rounds ∈ tbG := mg 503 (by decide +kernel) (by decide +kernel)
theorem ml_X6_91 : Cond.methodLink RX6 91 yX2_makeRounds ∈ tbG := mg 507 (by decide +kernel) (by decide +kernel)
theorem ml_X2_191 : Cond.methodLink RX2 191 yX2_makeFrame ∈ tbG := mg 511 (by decide +kernel) (by decide +kernel)
theorem ml_X2_194 : Cond.methodLink RX2 194 yX2_nextSize ∈ tbG := mg 512 (by decide +kernel) (by decide +kernel)
theorem ml_X2_198 : Cond.methodLink RX2 198 Lib.Math.min.name ∈ tbG := mg 516 (by decide +kernel) (by decide +kernel)
theorem ml_L_65 : Cond.methodLink RL 65 yX6_type ∈ tbG := mg 519 (by decide +kernel) (by decide +kernel)
theorem ml_X6_94 : Cond.methodLink RX6 94 yX4_append ∈ tbG := mg 523 (by decide +kernel) (by decide +kernel)
theorem ml_L_70 : Cond.methodLink RL 70 yX6_clearText ∈ tbG := mg 527 (by decide +kernel) (by decide +kernel)
theorem ml_X6_98 : Cond.methodLink RX6 98 yX4_empty ∈ tbG := mg 531 (by decide +kernel) (by decide +kernel)
theorem ml_L_74 : Cond.methodLink RL 74 yX6_perform ∈ tbG := mg 535 (by decide +kernel) (by decide +kernel)
theorem ml_X6_101 : Cond.methodLink RX6 101 yX4_readOrders ∈ tbG := mg 539 (by decide +kernel) (by decide +kernel)
theorem ml_X4_35 : Cond.methodLink RX4 35 yX4_readOrder ∈ tbG := mg 543 (by decide +kernel) (by decide +kernel)
theorem ml_X4_39 : Cond.methodLink RX4 39 yX4_characterAt ∈ tbG := mg 547 (by decide +kernel) (by decide +kernel)
theorem ml_X4_43 : Cond.methodLink RX4 43 yX4_readNumber ∈ tbG := mg 551 (by decide +kernel) (by decide +kernel)
theorem ml_X4_47 : Cond.methodLink RX4 47 yX4_digitAt ∈ tbG := mg 555 (by decide +kernel) (by decide +kernel)
theorem ml_X6_104 : Cond.methodLink RX6 104 yX4_orders ∈ tbG := mg 559 (by decide +kernel) (by decide +kernel)
theorem ml_X6_107 : Cond.methodLink RX6 107 yX4_kindAt ∈ tbG := mg 563 (by decide +kernel) (by decide +kernel)
theorem ml_X6_111 : Cond.methodLink RX6 111 yX4_numberAt ∈ tbG := mg 567 (by decide +kernel) (by decide +kernel)
theorem ml_X6_114 : Cond.methodLink RX6 114 yX2_carryOut ∈ tbG := mg 571 (by decide +kernel) (by decide +kernel)
theorem ml_X2_201 : Cond.methodLink RX2 201 yX2_putCard ∈ tbG := mg 575 (by decide +kernel) (by decide +kernel)
theorem ml_X2_204 : Cond.methodLink RX2 204 yX2_takeCard ∈ tbG := mg 576 (by decide +kernel) (by decide +kernel)
theorem ml_X2_207 : Cond.methodLink RX2 207 yX2_sleepCard ∈ tbG := mg 577 (by decide +kernel) (by decide +kernel)
theorem ml_X2_210 : Cond.methodLink RX2 210 yX2_wakeCards ∈ tbG := mg 578 (by decide +kernel) (by decide +kernel)
theorem ml_X2_213 : Cond.methodLink RX2 213 yX2_makeWalk ∈ tbG := mg 579 (by decide +kernel) (by decide +kernel)
theorem ml_L_78 : Cond.methodLink RL 78 yX6_undo ∈ tbG := mg 580 (by decide +kernel) (by decide +kernel)
theorem ml_X6_118 : Cond.methodLink RX6 118 yX0_backTo ∈ tbG := mg 584 (by decide +kernel) (by decide +kernel)
theorem ml_L_82 : Cond.methodLink RL 82 yX6_keep ∈ tbG := mg 588 (by decide +kernel) (by decide +kernel)
theorem ml_X6_126 : Cond.methodLink RX6 126 yX1_cards ∈ tbG := mg 592 (by decide +kernel) (by decide +kernel)
theorem ml_L_86 : Cond.methodLink RL 86 yX6_restore ∈ tbG := mg 593 (by decide +kernel) (by decide +kernel)
theorem ml_L_90 : Cond.methodLink RL 90 yX6_card ∈ tbG := mg 597 (by decide +kernel) (by decide +kernel)
theorem ml_X6_131 : Cond.methodLink RX6 131 yX1_nameAt ∈ tbG := mg 601 (by decide +kernel) (by decide +kernel)
theorem ml_L_94 : Cond.methodLink RL 94 yX6_ofCard ∈ tbG := mg 602 (by decide +kernel) (by decide +kernel)
theorem ml_X6_134 : Cond.methodLink RX6 134 yX1_placeOf ∈ tbG := mg 606 (by decide +kernel) (by decide +kernel)
theorem ml_X6_137 : Cond.methodLink RX6 137 yX1_isAwake ∈ tbG := mg 607 (by decide +kernel) (by decide +kernel)
theorem ml_X6_141 : Cond.methodLink RX6 141 yX1_asksToGo ∈ tbG := mg 608 (by decide +kernel) (by decide +kernel)
theorem ml_X6_144 : Cond.methodLink RX6 144 yX1_tellings ∈ tbG := mg 609 (by decide +kernel) (by decide +kernel)
theorem ml_X6_147 : Cond.methodLink RX6 147 yX1_sharedBits ∈ tbG := mg 613 (by decide +kernel) (by decide +kernel)
theorem nl_X1_39 : (RX1, 39, yX6_firstOne, "PocketCards") ∈ nsL := by decide +kernel
theorem ml_X1_43 : Cond.methodLink RX1 43 Lib.Math.max.name ∈ tbG := mg 618 (by decide +kernel) (by decide +kernel)
theorem ml_L_98 : Cond.methodLink RL 98 yX6_told ∈ tbG := mg 619 (by decide +kernel) (by decide +kernel)
theorem ml_X6_154 : Cond.methodLink RX6 154 yX5_names ∈ tbG := mg 623 (by decide +kernel) (by decide +kernel)
theorem ml_X6_159 : Cond.methodLink RX6 159 yX5_nameAt ∈ tbG := mg 624 (by decide +kernel) (by decide +kernel)
theorem ml_L_102 : Cond.methodLink RL 102 yX6_total ∈ tbG := mg 628 (by decide +kernel) (by decide +kernel)
theorem ml_X6_160 : Cond.methodLink RX6 160 yX1_awakeCards ∈ tbG := mg 632 (by decide +kernel) (by decide +kernel)
theorem ml_X6_163 : Cond.methodLink RX6 163 yX1_leavingCards ∈ tbG := mg 633 (by decide +kernel) (by decide +kernel)
theorem ml_X6_166 : Cond.methodLink RX6 166 yX2_valueOf ∈ tbG := mg 637 (by decide +kernel) (by decide +kernel)
theorem ml_X6_173 : Cond.methodLink RX6 173 yX0_states ∈ tbG := mg 641 (by decide +kernel) (by decide +kernel)
theorem ml_X6_176 : Cond.methodLink RX6 176 yX4_length ∈ tbG := mg 645 (by decide +kernel) (by decide +kernel)
theorem ml_X6_183 : Cond.methodLink RX6 183 yX3_numberOf ∈ tbG := mg 649 (by decide +kernel) (by decide +kernel)
theorem ml_L_106 : Cond.methodLink RL 106 yX6_count ∈ tbG := mg 653 (by decide +kernel) (by decide +kernel)
theorem ml_X6_188 : Cond.methodLink RX6 188 yX1_awakeWith ∈ tbG := mg 657 (by decide +kernel) (by decide +kernel)
theorem ml_L_110 : Cond.methodLink RL 110 yX6_walkTakes ∈ tbG := mg 658 (by decide +kernel) (by decide +kernel)
theorem ml_L_115 : Cond.methodLink RL 115 yX6_roundsTake ∈ tbG := mg 662 (by decide +kernel) (by decide +kernel)
theorem ml_X6_203 : Cond.methodLink RX6 203 yX6_isFrameSize ∈ tbG := mg 666 (by decide +kernel) (by decide +kernel)
theorem ml_L_119 : Cond.methodLink RL 119 yX6_bestFrame ∈ tbG := mg 667 (by decide +kernel) (by decide +kernel)
theorem ml_L_123 : Cond.methodLink RL 123 yX6_thickest ∈ tbG := mg 671 (by decide +kernel) (by decide +kernel)
theorem kl_L_10 : Cond.classLink RL 10 (cR 7) ∈ tbG := mg 675 (by decide +kernel) (by decide +kernel)
theorem it_X7 : Cond.instantiable (cR 7) (cN 7) ∈ tbG := mg 676 (by decide +kernel) (by decide +kernel)
theorem ml_L_12 : Cond.methodLink RL 12 yX7_init ∈ tbG := mg 677 (by decide +kernel) (by decide +kernel)
theorem ml_X7_1 : Cond.methodLink RX7 1 objectInit ∈ tbG := mg 680 (by decide +kernel) (by decide +kernel)
theorem fl_X7_7 : Cond.fieldLink RX7 7 (cU 7 0).1 (cU 7 0).2.1 (cU 7 0).2.2.1 ∈ tbG := mg 681 (by decide +kernel) (by decide +kernel)
theorem fl_X7_13 : Cond.fieldLink RX7 13 (cU 7 1).1 (cU 7 1).2.1 (cU 7 1).2.2.1 ∈ tbG := mg 682 (by decide +kernel) (by decide +kernel)
theorem fl_X7_16 : Cond.fieldLink RX7 16 (cU 7 2).1 (cU 7 2).2.1 (cU 7 2).2.2.1 ∈ tbG := mg 683 (by decide +kernel) (by decide +kernel)
theorem fl_X7_44 : Cond.fieldLink RX7 44 (cU 7 3).1 (cU 7 3).2.1 (cU 7 3).2.2.1 ∈ tbG := mg 684 (by decide +kernel) (by decide +kernel)
theorem fl_X7_19 : Cond.fieldLink RX7 19 (cU 7 4).1 (cU 7 4).2.1 (cU 7 4).2.2.1 ∈ tbG := mg 685 (by decide +kernel) (by decide +kernel)
theorem fl_X7_56 : Cond.fieldLink RX7 56 (cU 7 5).1 (cU 7 5).2.1 (cU 7 5).2.2.1 ∈ tbG := mg 686 (by decide +kernel) (by decide +kernel)
theorem fl_X7_22 : Cond.fieldLink RX7 22 (cU 7 6).1 (cU 7 6).2.1 (cU 7 6).2.2.1 ∈ tbG := mg 687 (by decide +kernel) (by decide +kernel)
theorem fl_X7_163 : Cond.fieldLink RX7 163 (cU 7 7).1 (cU 7 7).2.1 (cU 7 7).2.2.1 ∈ tbG := mg 688 (by decide +kernel) (by decide +kernel)
theorem fl_X7_92 : Cond.fieldLink RX7 92 (cU 7 8).1 (cU 7 8).2.1 (cU 7 8).2.2.1 ∈ tbG := mg 689 (by decide +kernel) (by decide +kernel)
theorem fl_X7_95 : Cond.fieldLink RX7 95 (cU 7 9).1 (cU 7 9).2.1 (cU 7 9).2.2.1 ∈ tbG := mg 690 (by decide +kernel) (by decide +kernel)
theorem fl_X7_98 : Cond.fieldLink RX7 98 (cU 7 10).1 (cU 7 10).2.1 (cU 7 10).2.2.1 ∈ tbG := mg 691 (by decide +kernel) (by decide +kernel)
theorem fl_X7_101 : Cond.fieldLink RX7 101 (cU 7 11).1 (cU 7 11).2.1 (cU 7 11).2.2.1 ∈ tbG := mg 692 (by decide +kernel) (by decide +kernel)
theorem fl_X7_25 : Cond.fieldLink RX7 25 (cU 7 12).1 (cU 7 12).2.1 (cU 7 12).2.2.1 ∈ tbG := mg 693 (by decide +kernel) (by decide +kernel)
theorem fl_X7_132 : Cond.fieldLink RX7 132 (cU 7 13).1 (cU 7 13).2.1 (cU 7 13).2.2.1 ∈ tbG := mg 694 (by decide +kernel) (by decide +kernel)
theorem fl_X7_28 : Cond.fieldLink RX7 28 (cU 7 14).1 (cU 7 14).2.1 (cU 7 14).2.2.1 ∈ tbG := mg 695 (by decide +kernel) (by decide +kernel)
theorem fl_X7_31 : Cond.fieldLink RX7 31 (cU 7 15).1 (cU 7 15).2.1 (cU 7 15).2.2.1 ∈ tbG := mg 696 (by decide +kernel) (by decide +kernel)
theorem fl_X7_34 : Cond.fieldLink RX7 34 (cU 7 16).1 (cU 7 16).2.1 (cU 7 16).2.2.1 ∈ tbG := mg 697 (by decide +kernel) (by decide +kernel)
theorem fl_X7_37 : Cond.fieldLink RX7 37 (cU 7 17).1 (cU 7 17).2.1 (cU 7 17).2.2.1 ∈ tbG := mg 698 (by decide +kernel) (by decide +kernel)
theorem fl_X7_175 : Cond.fieldLink RX7 175 (cU 7 18).1 (cU 7 18).2.1 (cU 7 18).2.2.1 ∈ tbG := mg 699 (by decide +kernel) (by decide +kernel)
theorem fl_X7_166 : Cond.fieldLink RX7 166 (cU 7 19).1 (cU 7 19).2.1 (cU 7 19).2.2.1 ∈ tbG := mg 700 (by decide +kernel) (by decide +kernel)
theorem ml_L_81 : Cond.methodLink RL 81 yX7_undo ∈ tbG := mg 742 (by decide +kernel) (by decide +kernel)
theorem ml_X7_48 : Cond.methodLink RX7 48 yX7_copyState ∈ tbG := mg 746 (by decide +kernel) (by decide +kernel)
theorem ml_L_85 : Cond.methodLink RL 85 yX7_keep ∈ tbG := mg 749 (by decide +kernel) (by decide +kernel)
theorem ml_L_89 : Cond.methodLink RL 89 yX7_restore ∈ tbG := mg 753 (by decide +kernel) (by decide +kernel)
theorem ml_X7_60 : Cond.methodLink RX7 60 yX7_record ∈ tbG := mg 757 (by decide +kernel) (by decide +kernel)
theorem ml_X7_52 : Cond.methodLink RX7 52 yX7_recordRow ∈ tbG := mg 761 (by decide +kernel) (by decide +kernel)
theorem ml_L_17 : Cond.methodLink RL 17 yX7_put ∈ tbG := mg 765 (by decide +kernel) (by decide +kernel)
theorem ml_X7_75 : Cond.methodLink RX7 75 yX7_whyNotPut ∈ tbG := mg 769 (by decide +kernel) (by decide +kernel)
theorem ml_X7_63 : Cond.methodLink RX7 63 yX7_in ∈ tbG := mg 773 (by decide +kernel) (by decide +kernel)
theorem ml_X7_67 : Cond.methodLink RX7 67 yX7_cardWith ∈ tbG := mg 776 (by decide +kernel) (by decide +kernel)
theorem ml_X7_40 : Cond.methodLink RX7 40 yX7_of ∈ tbG := mg 780 (by decide +kernel) (by decide +kernel)
theorem ml_X7_78 : Cond.methodLink RX7 78 yX7_putNow ∈ tbG := mg 784 (by decide +kernel) (by decide +kernel)
theorem ml_X7_71 : Cond.methodLink RX7 71 yX7_lay ∈ tbG := mg 788 (by decide +kernel) (by decide +kernel)
theorem ml_L_21 : Cond.methodLink RL 21 yX7_take ∈ tbG := mg 792 (by decide +kernel) (by decide +kernel)
theorem ml_X7_82 : Cond.methodLink RX7 82 yX7_takeNow ∈ tbG := mg 796 (by decide +kernel) (by decide +kernel)
theorem ml_L_25 : Cond.methodLink RL 25 yX7_sleep ∈ tbG := mg 800 (by decide +kernel) (by decide +kernel)
theorem ml_X7_85 : Cond.methodLink RX7 85 yX7_awake ∈ tbG := mg 804 (by decide +kernel) (by decide +kernel)
theorem ml_L_30 : Cond.methodLink RL 30 yX7_wakeAll ∈ tbG := mg 808 (by decide +kernel) (by decide +kernel)
theorem ml_X7_89 : Cond.methodLink RX7 89 yX7_wakeNow ∈ tbG := mg 812 (by decide +kernel) (by decide +kernel)
theorem ml_L_35 : Cond.methodLink RL 35 yX7_leave ∈ tbG := mg 816 (by decide +kernel) (by decide +kernel)
theorem ml_L_39 : Cond.methodLink RL 39 yX7_set ∈ tbG := mg 820 (by decide +kernel) (by decide +kernel)
theorem ml_L_43 : Cond.methodLink RL 43 yX7_shuffle ∈ tbG := mg 824 (by decide +kernel) (by decide +kernel)
theorem ml_L_47 : Cond.methodLink RL 47 yX7_forget ∈ tbG := mg 828 (by decide +kernel) (by decide +kernel)
theorem ml_L_51 : Cond.methodLink RL 51 yX7_ask ∈ tbG := mg 832 (by decide +kernel) (by decide +kernel)
theorem ml_X7_125 : Cond.methodLink RX7 125 yX7_isBeginning ∈ tbG := mg 836 (by decide +kernel) (by decide +kernel)
theorem ml_X7_129 : Cond.methodLink RX7 129 yX7_askNow ∈ tbG := mg 839 (by decide +kernel) (by decide +kernel)
theorem ml_X7_113 : Cond.methodLink RX7 113 yX7_noAnswer ∈ tbG := mg 843 (by decide +kernel) (by decide +kernel)
theorem ml_X7_116 : Cond.methodLink RX7 116 yX7_begins ∈ tbG := mg 847 (by decide +kernel) (by decide +kernel)
theorem ml_X7_119 : Cond.methodLink RX7 119 yX7_answers ∈ tbG := mg 850 (by decide +kernel) (by decide +kernel)
theorem ml_X7_122 : Cond.methodLink RX7 122 yX7_answer ∈ tbG := mg 854 (by decide +kernel) (by decide +kernel)
theorem ml_X7_104 : Cond.methodLink RX7 104 yX7_clashBit ∈ tbG := mg 858 (by decide +kernel) (by decide +kernel)
theorem ml_X7_107 : Cond.methodLink RX7 107 yX7_tell ∈ tbG := mg 862 (by decide +kernel) (by decide +kernel)
theorem ml_X7_110 : Cond.methodLink RX7 110 yX7_letGo ∈ tbG := mg 866 (by decide +kernel) (by decide +kernel)
theorem ml_L_56 : Cond.methodLink RL 56 yX7_walk ∈ tbG := mg 870 (by decide +kernel) (by decide +kernel)
theorem ml_X7_135 : Cond.methodLink RX7 135 yX7_walkNow ∈ tbG := mg 874 (by decide +kernel) (by decide +kernel)
theorem ml_L_60 : Cond.methodLink RL 60 yX7_frame ∈ tbG := mg 878 (by decide +kernel) (by decide +kernel)
theorem ml_X7_149 : Cond.methodLink RX7 149 yX7_isSlots ∈ tbG := mg 882 (by decide +kernel) (by decide +kernel)
theorem ml_X7_153 : Cond.methodLink RX7 153 yX7_frameNow ∈ tbG := mg 885 (by decide +kernel) (by decide +kernel)
theorem ml_X7_146 : Cond.methodLink RX7 146 yX7_draw ∈ tbG := mg 889 (by decide +kernel) (by decide +kernel)
theorem co_X7_145 : Cond.constant RX7 145 (Int32.ofInt 65536) ∈ tbG := mg 896 (by decide +kernel) (by decide +kernel)
theorem ml_L_64 : Cond.methodLink RL 64 yX7_rounds ∈ tbG := mg 897 (by decide +kernel) (by decide +kernel)
theorem ml_X7_160 : Cond.methodLink RX7 160 yX7_roundsNow ∈ tbG := mg 901 (by decide +kernel) (by decide +kernel)
theorem ml_X7_156 : Cond.methodLink RX7 156 yX7_nextSize ∈ tbG := mg 905 (by decide +kernel) (by decide +kernel)
theorem ml_L_69 : Cond.methodLink RL 69 yX7_type ∈ tbG := mg 909 (by decide +kernel) (by decide +kernel)
theorem ml_L_73 : Cond.methodLink RL 73 yX7_clearText ∈ tbG := mg 913 (by decide +kernel) (by decide +kernel)
theorem ml_L_77 : Cond.methodLink RL 77 yX7_perform ∈ tbG := mg 917 (by decide +kernel) (by decide +kernel)
theorem ml_X7_185 : Cond.methodLink RX7 185 yX7_readText ∈ tbG := mg 921 (by decide +kernel) (by decide +kernel)
theorem ml_X7_178 : Cond.methodLink RX7 178 yX7_readOrder ∈ tbG := mg 925 (by decide +kernel) (by decide +kernel)
theorem ml_X7_172 : Cond.methodLink RX7 172 yX7_number ∈ tbG := mg 929 (by decide +kernel) (by decide +kernel)
theorem ml_X7_169 : Cond.methodLink RX7 169 yX7_sees ∈ tbG := mg 933 (by decide +kernel) (by decide +kernel)
theorem ml_X7_182 : Cond.methodLink RX7 182 yX7_takes ∈ tbG := mg 937 (by decide +kernel) (by decide +kernel)
theorem ml_X7_188 : Cond.methodLink RX7 188 yX7_whyNot ∈ tbG := mg 941 (by decide +kernel) (by decide +kernel)
theorem ml_X7_191 : Cond.methodLink RX7 191 yX7_carryOut ∈ tbG := mg 945 (by decide +kernel) (by decide +kernel)
theorem ml_L_93 : Cond.methodLink RL 93 yX7_card ∈ tbG := mg 949 (by decide +kernel) (by decide +kernel)
theorem ml_L_97 : Cond.methodLink RL 97 yX7_ofCard ∈ tbG := mg 953 (by decide +kernel) (by decide +kernel)
theorem ml_X7_195 : Cond.methodLink RX7 195 yX7_shares ∈ tbG := mg 957 (by decide +kernel) (by decide +kernel)
theorem ml_L_101 : Cond.methodLink RL 101 yX7_told ∈ tbG := mg 961 (by decide +kernel) (by decide +kernel)
theorem ml_L_105 : Cond.methodLink RL 105 yX7_total ∈ tbG := mg 965 (by decide +kernel) (by decide +kernel)
theorem ml_X7_198 : Cond.methodLink RX7 198 yX7_leaving ∈ tbG := mg 969 (by decide +kernel) (by decide +kernel)
theorem ml_L_109 : Cond.methodLink RL 109 yX7_count ∈ tbG := mg 973 (by decide +kernel) (by decide +kernel)
theorem ml_X7_201 : Cond.methodLink RX7 201 yX7_withBeginning ∈ tbG := mg 977 (by decide +kernel) (by decide +kernel)
theorem ml_L_114 : Cond.methodLink RL 114 yX7_walkTakes ∈ tbG := mg 981 (by decide +kernel) (by decide +kernel)
theorem ml_L_118 : Cond.methodLink RL 118 yX7_roundsTake ∈ tbG := mg 985 (by decide +kernel) (by decide +kernel)
theorem ml_L_122 : Cond.methodLink RL 122 yX7_bestFrame ∈ tbG := mg 989 (by decide +kernel) (by decide +kernel)
theorem ml_L_126 : Cond.methodLink RL 126 yX7_thickest ∈ tbG := mg 993 (by decide +kernel) (by decide +kernel)
theorem im_obj : Cond.instanceMethod objectInit ∈ tbG := mg 61 (by decide +kernel) (by decide +kernel)
theorem oc_obj : Cond.code objectInit ⟨#[0xb1]⟩ 1 none ∈ tbG := mg 62 (by decide +kernel) (by decide +kernel)
theorem nt_copy : Cond.native arraycopyName ∈ tbG := mg 268 (by decide +kernel) (by decide +kernel)
theorem sm_copy : Cond.static arraycopyName ∈ tbG := mg 267 (by decide +kernel) (by decide +kernel)
theorem sm_max : Cond.static Lib.Math.max.name ∈ tbG := mg 453 (by decide +kernel) (by decide +kernel)
theorem oc_max : Cond.code Lib.Math.max.name Lib.Math.max.code 2 (some .int) ∈ tbG := mg 454 (by decide +kernel) (by decide +kernel)
theorem sm_min : Cond.static Lib.Math.min.name ∈ tbG := mg 517 (by decide +kernel) (by decide +kernel)
theorem oc_min : Cond.code Lib.Math.min.name Lib.Math.min.code 2 (some .int) ∈ tbG := mg 518 (by decide +kernel) (by decide +kernel)
end
