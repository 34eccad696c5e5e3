section
-- ===== PART A: goes FIRST, ahead of the names: the tables' words, and 'selects' of the private methods out of them =====
/-- a private method of a class that the tables say can be made, by its rows of tables_1 -/
def lw_okq (q : MethodName × Nat) : Prop := (q.1.cls ≠ "java/lang/invoke/MethodHandle" ∧ q.1.cls ≠ "java/lang/invoke/VarHandle") ∧ Cond.instantiable q.1.cls q.2 ∈ tables_1 ∧ Cond.privateMethod q.1 ∈ tables_1 ∧ Cond.instanceMethod q.1 ∈ tables_1
theorem lw_p0 : lw_okq (⟨"PocketCards$Pocket", "moveCard", "(II)V"⟩, 7) := ⟨⟨by decide +kernel, by decide +kernel⟩, List.mem_of_getElem? (i := 26) (by decide +kernel), List.mem_of_getElem? (i := 247) (by decide +kernel), List.mem_of_getElem? (i := 248) (by decide +kernel)⟩
theorem lw_p1 : lw_okq (⟨"PocketCards", "recorded", "(I)I"⟩, 7) := ⟨⟨by decide +kernel, by decide +kernel⟩, List.mem_of_getElem? (i := 12) (by decide +kernel), List.mem_of_getElem? (i := 251) (by decide +kernel), List.mem_of_getElem? (i := 252) (by decide +kernel)⟩
theorem lw_p2 : lw_okq (⟨"PocketCards$History", "dropOldest", "()V"⟩, 2) := ⟨⟨by decide +kernel, by decide +kernel⟩, List.mem_of_getElem? (i := 140) (by decide +kernel), List.mem_of_getElem? (i := 259) (by decide +kernel), List.mem_of_getElem? (i := 260) (by decide +kernel)⟩
theorem lw_p3 : lw_okq (⟨"PocketCards$Pocket", "isCard", "(I)Z"⟩, 7) := ⟨⟨by decide +kernel, by decide +kernel⟩, List.mem_of_getElem? (i := 26) (by decide +kernel), List.mem_of_getElem? (i := 276) (by decide +kernel), List.mem_of_getElem? (i := 277) (by decide +kernel)⟩
theorem lw_p4 : lw_okq (⟨"PocketCards$State", "hear", "()I"⟩, 7) := ⟨⟨by decide +kernel, by decide +kernel⟩, List.mem_of_getElem? (i := 20) (by decide +kernel), List.mem_of_getElem? (i := 382) (by decide +kernel), List.mem_of_getElem? (i := 383) (by decide +kernel)⟩
theorem lw_p5 : lw_okq (⟨"PocketCards$State", "drawSlots", "(I)V"⟩, 7) := ⟨⟨by decide +kernel, by decide +kernel⟩, List.mem_of_getElem? (i := 20) (by decide +kernel), List.mem_of_getElem? (i := 441) (by decide +kernel), List.mem_of_getElem? (i := 442) (by decide +kernel)⟩
theorem lw_p6 : lw_okq (⟨"PocketCards$State", "draw", "(I)I"⟩, 7) := ⟨⟨by decide +kernel, by decide +kernel⟩, List.mem_of_getElem? (i := 20) (by decide +kernel), List.mem_of_getElem? (i := 445) (by decide +kernel), List.mem_of_getElem? (i := 446) (by decide +kernel)⟩
theorem lw_p7 : lw_okq (⟨"PocketCards$State", "nextSize", "(III)I"⟩, 7) := ⟨⟨by decide +kernel, by decide +kernel⟩, List.mem_of_getElem? (i := 20) (by decide +kernel), List.mem_of_getElem? (i := 469) (by decide +kernel), List.mem_of_getElem? (i := 470) (by decide +kernel)⟩
theorem lw_p8 : lw_okq (⟨"PocketCards$Text", "readOrder", "()Z"⟩, 7) := ⟨⟨by decide +kernel, by decide +kernel⟩, List.mem_of_getElem? (i := 156) (by decide +kernel), List.mem_of_getElem? (i := 500) (by decide +kernel), List.mem_of_getElem? (i := 501) (by decide +kernel)⟩
theorem lw_p9 : lw_okq (⟨"PocketCards$Text", "characterAt", "(I)C"⟩, 7) := ⟨⟨by decide +kernel, by decide +kernel⟩, List.mem_of_getElem? (i := 156) (by decide +kernel), List.mem_of_getElem? (i := 504) (by decide +kernel), List.mem_of_getElem? (i := 505) (by decide +kernel)⟩
theorem lw_p10 : lw_okq (⟨"PocketCards$Text", "readNumber", "(II)Z"⟩, 7) := ⟨⟨by decide +kernel, by decide +kernel⟩, List.mem_of_getElem? (i := 156) (by decide +kernel), List.mem_of_getElem? (i := 508) (by decide +kernel), List.mem_of_getElem? (i := 509) (by decide +kernel)⟩
theorem lw_p11 : lw_okq (⟨"PocketCards$Text", "digitAt", "(I)I"⟩, 7) := ⟨⟨by decide +kernel, by decide +kernel⟩, List.mem_of_getElem? (i := 156) (by decide +kernel), List.mem_of_getElem? (i := 512) (by decide +kernel), List.mem_of_getElem? (i := 513) (by decide +kernel)⟩
theorem lw_p12 : lw_okq (⟨"PocketCardsModel", "record", "()V"⟩, 20) := ⟨⟨by decide +kernel, by decide +kernel⟩, List.mem_of_getElem? (i := 632) (by decide +kernel), List.mem_of_getElem? (i := 714) (by decide +kernel), List.mem_of_getElem? (i := 715) (by decide +kernel)⟩
theorem lw_p13 : lw_okq (⟨"PocketCardsModel", "recordRow", "([I)V"⟩, 20) := ⟨⟨by decide +kernel, by decide +kernel⟩, List.mem_of_getElem? (i := 632) (by decide +kernel), List.mem_of_getElem? (i := 718) (by decide +kernel), List.mem_of_getElem? (i := 719) (by decide +kernel)⟩
theorem lw_p14 : lw_okq (⟨"PocketCardsModel", "whyNotPut", "(I)I"⟩, 20) := ⟨⟨by decide +kernel, by decide +kernel⟩, List.mem_of_getElem? (i := 632) (by decide +kernel), List.mem_of_getElem? (i := 726) (by decide +kernel), List.mem_of_getElem? (i := 727) (by decide +kernel)⟩
theorem lw_p15 : lw_okq (⟨"PocketCardsModel", "cardWith", "(I)I"⟩, 20) := ⟨⟨by decide +kernel, by decide +kernel⟩, List.mem_of_getElem? (i := 632) (by decide +kernel), List.mem_of_getElem? (i := 733) (by decide +kernel), List.mem_of_getElem? (i := 734) (by decide +kernel)⟩
def lw_privs_1 : List (MethodName × Nat) := [(⟨"PocketCards$Pocket", "moveCard", "(II)V"⟩, 7), (⟨"PocketCards", "recorded", "(I)I"⟩, 7), (⟨"PocketCards$History", "dropOldest", "()V"⟩, 2), (⟨"PocketCards$Pocket", "isCard", "(I)Z"⟩, 7), (⟨"PocketCards$State", "hear", "()I"⟩, 7), (⟨"PocketCards$State", "drawSlots", "(I)V"⟩, 7), (⟨"PocketCards$State", "draw", "(I)I"⟩, 7), (⟨"PocketCards$State", "nextSize", "(III)I"⟩, 7), (⟨"PocketCards$Text", "readOrder", "()Z"⟩, 7), (⟨"PocketCards$Text", "characterAt", "(I)C"⟩, 7), (⟨"PocketCards$Text", "readNumber", "(II)Z"⟩, 7), (⟨"PocketCards$Text", "digitAt", "(I)I"⟩, 7), (⟨"PocketCardsModel", "record", "()V"⟩, 20), (⟨"PocketCardsModel", "recordRow", "([I)V"⟩, 20), (⟨"PocketCardsModel", "whyNotPut", "(I)I"⟩, 20), (⟨"PocketCardsModel", "cardWith", "(I)I"⟩, 20)]
theorem lw_r1 : ∀ q ∈ lw_privs_1, lw_okq q := List.forall_mem_cons.mpr ⟨lw_p0, List.forall_mem_cons.mpr ⟨lw_p1, List.forall_mem_cons.mpr ⟨lw_p2, List.forall_mem_cons.mpr ⟨lw_p3, List.forall_mem_cons.mpr ⟨lw_p4, List.forall_mem_cons.mpr ⟨lw_p5, List.forall_mem_cons.mpr ⟨lw_p6, List.forall_mem_cons.mpr ⟨lw_p7, List.forall_mem_cons.mpr ⟨lw_p8, List.forall_mem_cons.mpr ⟨lw_p9, List.forall_mem_cons.mpr ⟨lw_p10, List.forall_mem_cons.mpr ⟨lw_p11, List.forall_mem_cons.mpr ⟨lw_p12, List.forall_mem_cons.mpr ⟨lw_p13, List.forall_mem_cons.mpr ⟨lw_p14, List.forall_mem_cons.mpr ⟨lw_p15, fun _ h => absurd h List.not_mem_nil⟩⟩⟩⟩⟩⟩⟩⟩⟩⟩⟩⟩⟩⟩⟩⟩
theorem lw_p16 : lw_okq (⟨"PocketCardsModel", "of", "(II)I"⟩, 20) := ⟨⟨by decide +kernel, by decide +kernel⟩, List.mem_of_getElem? (i := 632) (by decide +kernel), List.mem_of_getElem? (i := 737) (by decide +kernel), List.mem_of_getElem? (i := 738) (by decide +kernel)⟩
theorem lw_p17 : lw_okq (⟨"PocketCardsModel", "putNow", "(I)V"⟩, 20) := ⟨⟨by decide +kernel, by decide +kernel⟩, List.mem_of_getElem? (i := 632) (by decide +kernel), List.mem_of_getElem? (i := 741) (by decide +kernel), List.mem_of_getElem? (i := 742) (by decide +kernel)⟩
theorem lw_p18 : lw_okq (⟨"PocketCardsModel", "lay", "(III)V"⟩, 20) := ⟨⟨by decide +kernel, by decide +kernel⟩, List.mem_of_getElem? (i := 632) (by decide +kernel), List.mem_of_getElem? (i := 745) (by decide +kernel), List.mem_of_getElem? (i := 746) (by decide +kernel)⟩
theorem lw_p19 : lw_okq (⟨"PocketCardsModel", "takeNow", "(I)V"⟩, 20) := ⟨⟨by decide +kernel, by decide +kernel⟩, List.mem_of_getElem? (i := 632) (by decide +kernel), List.mem_of_getElem? (i := 753) (by decide +kernel), List.mem_of_getElem? (i := 754) (by decide +kernel)⟩
theorem lw_p20 : lw_okq (⟨"PocketCardsModel", "awake", "()I"⟩, 20) := ⟨⟨by decide +kernel, by decide +kernel⟩, List.mem_of_getElem? (i := 632) (by decide +kernel), List.mem_of_getElem? (i := 761) (by decide +kernel), List.mem_of_getElem? (i := 762) (by decide +kernel)⟩
theorem lw_p21 : lw_okq (⟨"PocketCardsModel", "wakeNow", "()V"⟩, 20) := ⟨⟨by decide +kernel, by decide +kernel⟩, List.mem_of_getElem? (i := 632) (by decide +kernel), List.mem_of_getElem? (i := 769) (by decide +kernel), List.mem_of_getElem? (i := 770) (by decide +kernel)⟩
theorem lw_p22 : lw_okq (⟨"PocketCardsModel", "askNow", "(II)I"⟩, 20) := ⟨⟨by decide +kernel, by decide +kernel⟩, List.mem_of_getElem? (i := 632) (by decide +kernel), List.mem_of_getElem? (i := 796) (by decide +kernel), List.mem_of_getElem? (i := 797) (by decide +kernel)⟩
theorem lw_p23 : lw_okq (⟨"PocketCardsModel", "noAnswer", "()V"⟩, 20) := ⟨⟨by decide +kernel, by decide +kernel⟩, List.mem_of_getElem? (i := 632) (by decide +kernel), List.mem_of_getElem? (i := 800) (by decide +kernel), List.mem_of_getElem? (i := 801) (by decide +kernel)⟩
theorem lw_p24 : lw_okq (⟨"PocketCardsModel", "answers", "(I)V"⟩, 20) := ⟨⟨by decide +kernel, by decide +kernel⟩, List.mem_of_getElem? (i := 632) (by decide +kernel), List.mem_of_getElem? (i := 807) (by decide +kernel), List.mem_of_getElem? (i := 808) (by decide +kernel)⟩
theorem lw_p25 : lw_okq (⟨"PocketCardsModel", "answer", "()I"⟩, 20) := ⟨⟨by decide +kernel, by decide +kernel⟩, List.mem_of_getElem? (i := 632) (by decide +kernel), List.mem_of_getElem? (i := 811) (by decide +kernel), List.mem_of_getElem? (i := 812) (by decide +kernel)⟩
theorem lw_p26 : lw_okq (⟨"PocketCardsModel", "clashBit", "()I"⟩, 20) := ⟨⟨by decide +kernel, by decide +kernel⟩, List.mem_of_getElem? (i := 632) (by decide +kernel), List.mem_of_getElem? (i := 815) (by decide +kernel), List.mem_of_getElem? (i := 816) (by decide +kernel)⟩
theorem lw_p27 : lw_okq (⟨"PocketCardsModel", "tell", "(I)V"⟩, 20) := ⟨⟨by decide +kernel, by decide +kernel⟩, List.mem_of_getElem? (i := 632) (by decide +kernel), List.mem_of_getElem? (i := 819) (by decide +kernel), List.mem_of_getElem? (i := 820) (by decide +kernel)⟩
theorem lw_p28 : lw_okq (⟨"PocketCardsModel", "letGo", "()V"⟩, 20) := ⟨⟨by decide +kernel, by decide +kernel⟩, List.mem_of_getElem? (i := 632) (by decide +kernel), List.mem_of_getElem? (i := 823) (by decide +kernel), List.mem_of_getElem? (i := 824) (by decide +kernel)⟩
theorem lw_p29 : lw_okq (⟨"PocketCardsModel", "walkNow", "(Z)V"⟩, 20) := ⟨⟨by decide +kernel, by decide +kernel⟩, List.mem_of_getElem? (i := 632) (by decide +kernel), List.mem_of_getElem? (i := 831) (by decide +kernel), List.mem_of_getElem? (i := 832) (by decide +kernel)⟩
theorem lw_p30 : lw_okq (⟨"PocketCardsModel", "frameNow", "(I)V"⟩, 20) := ⟨⟨by decide +kernel, by decide +kernel⟩, List.mem_of_getElem? (i := 632) (by decide +kernel), List.mem_of_getElem? (i := 842) (by decide +kernel), List.mem_of_getElem? (i := 843) (by decide +kernel)⟩
theorem lw_p31 : lw_okq (⟨"PocketCardsModel", "draw", "(I)I"⟩, 20) := ⟨⟨by decide +kernel, by decide +kernel⟩, List.mem_of_getElem? (i := 632) (by decide +kernel), List.mem_of_getElem? (i := 846) (by decide +kernel), List.mem_of_getElem? (i := 847) (by decide +kernel)⟩
def lw_privs_2 : List (MethodName × Nat) := [(⟨"PocketCardsModel", "of", "(II)I"⟩, 20), (⟨"PocketCardsModel", "putNow", "(I)V"⟩, 20), (⟨"PocketCardsModel", "lay", "(III)V"⟩, 20), (⟨"PocketCardsModel", "takeNow", "(I)V"⟩, 20), (⟨"PocketCardsModel", "awake", "()I"⟩, 20), (⟨"PocketCardsModel", "wakeNow", "()V"⟩, 20), (⟨"PocketCardsModel", "askNow", "(II)I"⟩, 20), (⟨"PocketCardsModel", "noAnswer", "()V"⟩, 20), (⟨"PocketCardsModel", "answers", "(I)V"⟩, 20), (⟨"PocketCardsModel", "answer", "()I"⟩, 20), (⟨"PocketCardsModel", "clashBit", "()I"⟩, 20), (⟨"PocketCardsModel", "tell", "(I)V"⟩, 20), (⟨"PocketCardsModel", "letGo", "()V"⟩, 20), (⟨"PocketCardsModel", "walkNow", "(Z)V"⟩, 20), (⟨"PocketCardsModel", "frameNow", "(I)V"⟩, 20), (⟨"PocketCardsModel", "draw", "(I)I"⟩, 20)]
theorem lw_r2 : ∀ q ∈ lw_privs_2, lw_okq q := List.forall_mem_cons.mpr ⟨lw_p16, List.forall_mem_cons.mpr ⟨lw_p17, List.forall_mem_cons.mpr ⟨lw_p18, List.forall_mem_cons.mpr ⟨lw_p19, List.forall_mem_cons.mpr ⟨lw_p20, List.forall_mem_cons.mpr ⟨lw_p21, List.forall_mem_cons.mpr ⟨lw_p22, List.forall_mem_cons.mpr ⟨lw_p23, List.forall_mem_cons.mpr ⟨lw_p24, List.forall_mem_cons.mpr ⟨lw_p25, List.forall_mem_cons.mpr ⟨lw_p26, List.forall_mem_cons.mpr ⟨lw_p27, List.forall_mem_cons.mpr ⟨lw_p28, List.forall_mem_cons.mpr ⟨lw_p29, List.forall_mem_cons.mpr ⟨lw_p30, List.forall_mem_cons.mpr ⟨lw_p31, fun _ h => absurd h List.not_mem_nil⟩⟩⟩⟩⟩⟩⟩⟩⟩⟩⟩⟩⟩⟩⟩⟩
theorem lw_p32 : lw_okq (⟨"PocketCardsModel", "roundsNow", "(I)I"⟩, 20) := ⟨⟨by decide +kernel, by decide +kernel⟩, List.mem_of_getElem? (i := 632) (by decide +kernel), List.mem_of_getElem? (i := 858) (by decide +kernel), List.mem_of_getElem? (i := 859) (by decide +kernel)⟩
theorem lw_p33 : lw_okq (⟨"PocketCardsModel", "nextSize", "(III)I"⟩, 20) := ⟨⟨by decide +kernel, by decide +kernel⟩, List.mem_of_getElem? (i := 632) (by decide +kernel), List.mem_of_getElem? (i := 862) (by decide +kernel), List.mem_of_getElem? (i := 863) (by decide +kernel)⟩
theorem lw_p34 : lw_okq (⟨"PocketCardsModel", "readText", "()Z"⟩, 20) := ⟨⟨by decide +kernel, by decide +kernel⟩, List.mem_of_getElem? (i := 632) (by decide +kernel), List.mem_of_getElem? (i := 878) (by decide +kernel), List.mem_of_getElem? (i := 879) (by decide +kernel)⟩
theorem lw_p35 : lw_okq (⟨"PocketCardsModel", "readOrder", "()Z"⟩, 20) := ⟨⟨by decide +kernel, by decide +kernel⟩, List.mem_of_getElem? (i := 632) (by decide +kernel), List.mem_of_getElem? (i := 882) (by decide +kernel), List.mem_of_getElem? (i := 883) (by decide +kernel)⟩
theorem lw_p36 : lw_okq (⟨"PocketCardsModel", "number", "(II)I"⟩, 20) := ⟨⟨by decide +kernel, by decide +kernel⟩, List.mem_of_getElem? (i := 632) (by decide +kernel), List.mem_of_getElem? (i := 886) (by decide +kernel), List.mem_of_getElem? (i := 887) (by decide +kernel)⟩
theorem lw_p37 : lw_okq (⟨"PocketCardsModel", "sees", "(II)Z"⟩, 20) := ⟨⟨by decide +kernel, by decide +kernel⟩, List.mem_of_getElem? (i := 632) (by decide +kernel), List.mem_of_getElem? (i := 890) (by decide +kernel), List.mem_of_getElem? (i := 891) (by decide +kernel)⟩
theorem lw_p38 : lw_okq (⟨"PocketCardsModel", "takes", "(I)Z"⟩, 20) := ⟨⟨by decide +kernel, by decide +kernel⟩, List.mem_of_getElem? (i := 632) (by decide +kernel), List.mem_of_getElem? (i := 894) (by decide +kernel), List.mem_of_getElem? (i := 895) (by decide +kernel)⟩
theorem lw_p39 : lw_okq (⟨"PocketCardsModel", "whyNot", "(II)I"⟩, 20) := ⟨⟨by decide +kernel, by decide +kernel⟩, List.mem_of_getElem? (i := 632) (by decide +kernel), List.mem_of_getElem? (i := 898) (by decide +kernel), List.mem_of_getElem? (i := 899) (by decide +kernel)⟩
theorem lw_p40 : lw_okq (⟨"PocketCardsModel", "carryOut", "(II)V"⟩, 20) := ⟨⟨by decide +kernel, by decide +kernel⟩, List.mem_of_getElem? (i := 632) (by decide +kernel), List.mem_of_getElem? (i := 902) (by decide +kernel), List.mem_of_getElem? (i := 903) (by decide +kernel)⟩
theorem lw_p41 : lw_okq (⟨"PocketCardsModel", "shares", "(I)I"⟩, 20) := ⟨⟨by decide +kernel, by decide +kernel⟩, List.mem_of_getElem? (i := 632) (by decide +kernel), List.mem_of_getElem? (i := 914) (by decide +kernel), List.mem_of_getElem? (i := 915) (by decide +kernel)⟩
theorem lw_p42 : lw_okq (⟨"PocketCardsModel", "leaving", "()I"⟩, 20) := ⟨⟨by decide +kernel, by decide +kernel⟩, List.mem_of_getElem? (i := 632) (by decide +kernel), List.mem_of_getElem? (i := 926) (by decide +kernel), List.mem_of_getElem? (i := 927) (by decide +kernel)⟩
theorem lw_p43 : lw_okq (⟨"PocketCardsModel", "withBeginning", "(II)I"⟩, 20) := ⟨⟨by decide +kernel, by decide +kernel⟩, List.mem_of_getElem? (i := 632) (by decide +kernel), List.mem_of_getElem? (i := 934) (by decide +kernel), List.mem_of_getElem? (i := 935) (by decide +kernel)⟩
def lw_privs_3 : List (MethodName × Nat) := [(⟨"PocketCardsModel", "roundsNow", "(I)I"⟩, 20), (⟨"PocketCardsModel", "nextSize", "(III)I"⟩, 20), (⟨"PocketCardsModel", "readText", "()Z"⟩, 20), (⟨"PocketCardsModel", "readOrder", "()Z"⟩, 20), (⟨"PocketCardsModel", "number", "(II)I"⟩, 20), (⟨"PocketCardsModel", "sees", "(II)Z"⟩, 20), (⟨"PocketCardsModel", "takes", "(I)Z"⟩, 20), (⟨"PocketCardsModel", "whyNot", "(II)I"⟩, 20), (⟨"PocketCardsModel", "carryOut", "(II)V"⟩, 20), (⟨"PocketCardsModel", "shares", "(I)I"⟩, 20), (⟨"PocketCardsModel", "leaving", "()I"⟩, 20), (⟨"PocketCardsModel", "withBeginning", "(II)I"⟩, 20)]
theorem lw_r3 : ∀ q ∈ lw_privs_3, lw_okq q := List.forall_mem_cons.mpr ⟨lw_p32, List.forall_mem_cons.mpr ⟨lw_p33, List.forall_mem_cons.mpr ⟨lw_p34, List.forall_mem_cons.mpr ⟨lw_p35, List.forall_mem_cons.mpr ⟨lw_p36, List.forall_mem_cons.mpr ⟨lw_p37, List.forall_mem_cons.mpr ⟨lw_p38, List.forall_mem_cons.mpr ⟨lw_p39, List.forall_mem_cons.mpr ⟨lw_p40, List.forall_mem_cons.mpr ⟨lw_p41, List.forall_mem_cons.mpr ⟨lw_p42, List.forall_mem_cons.mpr ⟨lw_p43, fun _ h => absurd h List.not_mem_nil⟩⟩⟩⟩⟩⟩⟩⟩⟩⟩⟩⟩
def lw_privs : List (MethodName × Nat) := lw_privs_1 ++ (lw_privs_2 ++ (lw_privs_3))
def lw_tbl : List Cond := k2_sels lw_privs ++ tables_1
theorem lw_privs_ok : ∀ q ∈ lw_privs, lw_okq q := by
  show ∀ q ∈ lw_privs_1 ++ (lw_privs_2 ++ (lw_privs_3)), lw_okq q
  exact List.forall_mem_append.mpr ⟨lw_r1, List.forall_mem_append.mpr ⟨lw_r2, lw_r3⟩⟩
end
section
def RX0 : String := "PocketCards$History"
def TX0 : u_T := fun k => match k with
  | 0 => ("PocketCards$History", "rows", "[LPocketCards$State;", true)
  | _ => ("PocketCards$History", "states", "I", false)
def tyX0 : Nat → FieldType := fun k => match k with
  | 0 => .array (.object "PocketCards$State")
  | _ => .int
abbrev wsX00 : List Cond := u_ws RX0 TX0 2
theorem nmX0 : ∀ a, a < 2 → ∀ b, b < 2 → a ≠ b → (TX0 a).2.1 ≠ (TX0 b).2.1 := by decide +kernel
theorem tyX0_ok : ∀ k, k < 2 → parseFieldDescriptor (TX0 k).2.2.1 = some (tyX0 k) := by decide +kernel
abbrev cX0_init : ByteArray := prog_2_method_1_code
def yX0_init : MethodName := ⟨RX0, "<init>", "()V"⟩
abbrev cX0_states : ByteArray := prog_2_method_2_code
def yX0_states : MethodName := ⟨RX0, "states", "()I"⟩
abbrev cX0_add : ByteArray := prog_2_method_3_code
def yX0_add : MethodName := ⟨RX0, "add", "(LPocketCards$State;)V"⟩
abbrev cX0_dropOldest : ByteArray := prog_2_method_4_code
def yX0_dropOldest : MethodName := ⟨RX0, "dropOldest", "()V"⟩
abbrev cX0_backTo : ByteArray := prog_2_method_5_code
def yX0_backTo : MethodName := ⟨RX0, "backTo", "(LPocketCards$State;)I"⟩
def RX1 : String := "PocketCards$Pocket"
def TX1 : u_T := fun k => match k with
  | 0 => ("PocketCards$Pocket", "names", "[I", true)
  | 1 => ("PocketCards$Pocket", "asksToGo", "[I", true)
  | 2 => ("PocketCards$Pocket", "tellings", "[I", true)
  | 3 => ("PocketCards$Pocket", "slots", "[I", true)
  | 4 => ("PocketCards$Pocket", "awake", "[Z", true)
  | 5 => ("PocketCards$Pocket", "answering", "[Z", true)
  | _ => ("PocketCards$Pocket", "cards", "I", false)
def tyX1 : Nat → FieldType := fun k => match k with
  | 0 => .array .int
  | 1 => .array .int
  | 2 => .array .int
  | 3 => .array .int
  | 4 => .array .boolean
  | 5 => .array .boolean
  | _ => .int
abbrev wsX10 : List Cond := u_ws RX1 TX1 7
theorem nmX1 : ∀ a, a < 7 → ∀ b, b < 7 → a ≠ b → (TX1 a).2.1 ≠ (TX1 b).2.1 := by decide +kernel
theorem tyX1_ok : ∀ k, k < 7 → parseFieldDescriptor (TX1 k).2.2.1 = some (tyX1 k) := by decide +kernel
abbrev cX1_init : ByteArray := prog_3_method_1_code
def yX1_init : MethodName := ⟨RX1, "<init>", "()V"⟩
abbrev cX1_copyFrom : ByteArray := prog_3_method_2_code
def yX1_copyFrom : MethodName := ⟨RX1, "copyFrom", "(LPocketCards$Pocket;)V"⟩
abbrev cX1_cards : ByteArray := prog_3_method_3_code
def yX1_cards : MethodName := ⟨RX1, "cards", "()I"⟩
abbrev cX1_isCard : ByteArray := prog_3_method_4_code
def yX1_isCard : MethodName := ⟨RX1, "isCard", "(I)Z"⟩
abbrev cX1_placeOf : ByteArray := prog_3_method_5_code
def yX1_placeOf : MethodName := ⟨RX1, "placeOf", "(I)I"⟩
abbrev cX1_nameAt : ByteArray := prog_3_method_6_code
def yX1_nameAt : MethodName := ⟨RX1, "nameAt", "(I)I"⟩
abbrev cX1_isAwake : ByteArray := prog_3_method_7_code
def yX1_isAwake : MethodName := ⟨RX1, "isAwake", "(I)Z"⟩
abbrev cX1_asksToGo : ByteArray := prog_3_method_8_code
def yX1_asksToGo : MethodName := ⟨RX1, "asksToGo", "(I)I"⟩
abbrev cX1_tellings : ByteArray := prog_3_method_9_code
def yX1_tellings : MethodName := ⟨RX1, "tellings", "(I)I"⟩
abbrev cX1_sharedBits : ByteArray := prog_3_method_10_code
def yX1_sharedBits : MethodName := ⟨RX1, "sharedBits", "(I)I"⟩
abbrev cX1_awakeCards : ByteArray := prog_3_method_11_code
def yX1_awakeCards : MethodName := ⟨RX1, "awakeCards", "()I"⟩
abbrev cX1_awakeWith : ByteArray := prog_3_method_12_code
def yX1_awakeWith : MethodName := ⟨RX1, "awakeWith", "(II)I"⟩
abbrev cX1_leavingCards : ByteArray := prog_3_method_13_code
def yX1_leavingCards : MethodName := ⟨RX1, "leavingCards", "()I"⟩
abbrev cX1_insert : ByteArray := prog_3_method_14_code
def yX1_insert : MethodName := ⟨RX1, "insert", "(I)V"⟩
abbrev cX1_removeAt : ByteArray := prog_3_method_15_code
def yX1_removeAt : MethodName := ⟨RX1, "removeAt", "(I)V"⟩
abbrev cX1_moveCard : ByteArray := prog_3_method_16_code
def yX1_moveCard : MethodName := ⟨RX1, "moveCard", "(II)V"⟩
abbrev cX1_sleepAt : ByteArray := prog_3_method_17_code
def yX1_sleepAt : MethodName := ⟨RX1, "sleepAt", "(I)V"⟩
abbrev cX1_wakeEach : ByteArray := prog_3_method_18_code
def yX1_wakeEach : MethodName := ⟨RX1, "wakeEach", "()V"⟩
abbrev cX1_leaveAt : ByteArray := prog_3_method_19_code
def yX1_leaveAt : MethodName := ⟨RX1, "leaveAt", "(II)V"⟩
abbrev cX1_tellAt : ByteArray := prog_3_method_20_code
def yX1_tellAt : MethodName := ⟨RX1, "tellAt", "(I)V"⟩
abbrev cX1_slotAt : ByteArray := prog_3_method_21_code
def yX1_slotAt : MethodName := ⟨RX1, "slotAt", "(II)V"⟩
abbrev cX1_letAnswer : ByteArray := prog_3_method_22_code
def yX1_letAnswer : MethodName := ⟨RX1, "letAnswer", "(II)V"⟩
abbrev cX1_letAnswerIn : ByteArray := prog_3_method_23_code
def yX1_letAnswerIn : MethodName := ⟨RX1, "letAnswerIn", "(I)V"⟩
abbrev cX1_firstAnswering : ByteArray := prog_3_method_24_code
def yX1_firstAnswering : MethodName := ⟨RX1, "firstAnswering", "()I"⟩
abbrev cX1_differencesFrom : ByteArray := prog_3_method_25_code
def yX1_differencesFrom : MethodName := ⟨RX1, "differencesFrom", "(I)I"⟩
abbrev cX1_passAsk : ByteArray := prog_3_method_26_code
def yX1_passAsk : MethodName := ⟨RX1, "passAsk", "()I"⟩
def RX2 : String := "PocketCards$State"
def TX2 : u_T := fun k => match k with
  | 0 => ("PocketCards$State", "pocket", "LPocketCards$Pocket;", true)
  | 1 => ("PocketCards$State", "told", "LPocketCards$Told;", true)
  | 2 => ("PocketCards$State", "tally", "LPocketCards$Tally;", true)
  | 3 => ("PocketCards$State", "settings", "[I", true)
  | 4 => ("PocketCards$State", "x", "I", false)
  | 5 => ("PocketCards$State", "longest", "I", false)
  | _ => ("PocketCards$State", "clashName", "I", false)
def tyX2 : Nat → FieldType := fun k => match k with
  | 0 => .object "PocketCards$Pocket"
  | 1 => .object "PocketCards$Told"
  | 2 => .object "PocketCards$Tally"
  | 3 => .array .int
  | 4 => .int
  | 5 => .int
  | _ => .int
abbrev wsX20 : List Cond := u_ws RX2 TX2 7
theorem nmX2 : ∀ a, a < 7 → ∀ b, b < 7 → a ≠ b → (TX2 a).2.1 ≠ (TX2 b).2.1 := by decide +kernel
theorem tyX2_ok : ∀ k, k < 7 → parseFieldDescriptor (TX2 k).2.2.1 = some (tyX2 k) := by decide +kernel
abbrev cX2_init : ByteArray := prog_4_method_1_code
def yX2_init : MethodName := ⟨RX2, "<init>", "()V"⟩
abbrev cX2_copyFrom : ByteArray := prog_4_method_2_code
def yX2_copyFrom : MethodName := ⟨RX2, "copyFrom", "(LPocketCards$State;)V"⟩
abbrev cX2_putCard : ByteArray := prog_4_method_3_code
def yX2_putCard : MethodName := ⟨RX2, "putCard", "(I)I"⟩
abbrev cX2_takeCard : ByteArray := prog_4_method_4_code
def yX2_takeCard : MethodName := ⟨RX2, "takeCard", "(I)I"⟩
abbrev cX2_sleepCard : ByteArray := prog_4_method_5_code
def yX2_sleepCard : MethodName := ⟨RX2, "sleepCard", "(I)I"⟩
abbrev cX2_wakeCards : ByteArray := prog_4_method_6_code
def yX2_wakeCards : MethodName := ⟨RX2, "wakeCards", "()I"⟩
abbrev cX2_leaveBehind : ByteArray := prog_4_method_7_code
def yX2_leaveBehind : MethodName := ⟨RX2, "leaveBehind", "(II)I"⟩
abbrev cX2_setTo : ByteArray := prog_4_method_8_code
def yX2_setTo : MethodName := ⟨RX2, "setTo", "(II)I"⟩
abbrev cX2_valueOf : ByteArray := prog_4_method_9_code
def yX2_valueOf : MethodName := ⟨RX2, "valueOf", "(I)I"⟩
abbrev cX2_shuffleTo : ByteArray := prog_4_method_10_code
def yX2_shuffleTo : MethodName := ⟨RX2, "shuffleTo", "(I)I"⟩
abbrev cX2_forgetTold : ByteArray := prog_4_method_11_code
def yX2_forgetTold : MethodName := ⟨RX2, "forgetTold", "()I"⟩
abbrev cX2_askFor : ByteArray := prog_4_method_12_code
def yX2_askFor : MethodName := ⟨RX2, "askFor", "(II)I"⟩
abbrev cX2_hear : ByteArray := prog_4_method_13_code
def yX2_hear : MethodName := ⟨RX2, "hear", "()I"⟩
abbrev cX2_makeWalk : ByteArray := prog_4_method_14_code
def yX2_makeWalk : MethodName := ⟨RX2, "makeWalk", "(Z)I"⟩
abbrev cX2_walkFrom : ByteArray := prog_4_method_15_code
def yX2_walkFrom : MethodName := ⟨RX2, "walkFrom", "(LPocketCards$State;IIZ)V"⟩
abbrev cX2_makeFrame : ByteArray := prog_4_method_16_code
def yX2_makeFrame : MethodName := ⟨RX2, "makeFrame", "(I)I"⟩
abbrev cX2_drawSlots : ByteArray := prog_4_method_17_code
def yX2_drawSlots : MethodName := ⟨RX2, "drawSlots", "(I)V"⟩
abbrev cX2_draw : ByteArray := prog_4_method_18_code
def yX2_draw : MethodName := ⟨RX2, "draw", "(I)I"⟩
abbrev cX2_makeRounds : ByteArray := prog_4_method_19_code
def yX2_makeRounds : MethodName := ⟨RX2, "makeRounds", "(I)I"⟩
abbrev cX2_nextSize : ByteArray := prog_4_method_20_code
def yX2_nextSize : MethodName := ⟨RX2, "nextSize", "(III)I"⟩
abbrev cX2_carryOut : ByteArray := prog_4_method_21_code
def yX2_carryOut : MethodName := ⟨RX2, "carryOut", "(CI)I"⟩
def RX3 : String := "PocketCards$Tally"
def TX3 : u_T := fun k => match k with
  | 0 => ("PocketCards$Tally", "asks", "I", false)
  | 1 => ("PocketCards$Tally", "slots", "I", false)
  | 2 => ("PocketCards$Tally", "silences", "I", false)
  | 3 => ("PocketCards$Tally", "names", "I", false)
  | 4 => ("PocketCards$Tally", "clashes", "I", false)
  | 5 => ("PocketCards$Tally", "time", "I", false)
  | 6 => ("PocketCards$Tally", "frames", "I", false)
  | _ => ("PocketCards$Tally", "left", "I", false)
def tyX3 : Nat → FieldType := fun k => match k with
  | 0 => .int
  | 1 => .int
  | 2 => .int
  | 3 => .int
  | 4 => .int
  | 5 => .int
  | 6 => .int
  | _ => .int
abbrev wsX30 : List Cond := u_ws RX3 TX3 8
theorem nmX3 : ∀ a, a < 8 → ∀ b, b < 8 → a ≠ b → (TX3 a).2.1 ≠ (TX3 b).2.1 := by decide +kernel
theorem tyX3_ok : ∀ k, k < 8 → parseFieldDescriptor (TX3 k).2.2.1 = some (tyX3 k) := by decide +kernel
abbrev cX3_init : ByteArray := prog_5_method_1_code
def yX3_init : MethodName := ⟨RX3, "<init>", "()V"⟩
abbrev cX3_copyFrom : ByteArray := prog_5_method_2_code
def yX3_copyFrom : MethodName := ⟨RX3, "copyFrom", "(LPocketCards$Tally;)V"⟩
abbrev cX3_numberOf : ByteArray := prog_5_method_3_code
def yX3_numberOf : MethodName := ⟨RX3, "numberOf", "(I)I"⟩
def RX4 : String := "PocketCards$Text"
def TX4 : u_T := fun k => match k with
  | 0 => ("PocketCards$Text", "characters", "[C", true)
  | 1 => ("PocketCards$Text", "length", "I", false)
  | 2 => ("PocketCards$Text", "kinds", "[C", true)
  | 3 => ("PocketCards$Text", "numbers", "[I", true)
  | 4 => ("PocketCards$Text", "orders", "I", false)
  | 5 => ("PocketCards$Text", "place", "I", false)
  | _ => ("PocketCards$Text", "number", "I", false)
def tyX4 : Nat → FieldType := fun k => match k with
  | 0 => .array .char
  | 1 => .int
  | 2 => .array .char
  | 3 => .array .int
  | 4 => .int
  | 5 => .int
  | _ => .int
abbrev wsX40 : List Cond := u_ws RX4 TX4 7
theorem nmX4 : ∀ a, a < 7 → ∀ b, b < 7 → a ≠ b → (TX4 a).2.1 ≠ (TX4 b).2.1 := by decide +kernel
theorem tyX4_ok : ∀ k, k < 7 → parseFieldDescriptor (TX4 k).2.2.1 = some (tyX4 k) := by decide +kernel
abbrev cX4_init : ByteArray := prog_6_method_1_code
def yX4_init : MethodName := ⟨RX4, "<init>", "()V"⟩
abbrev cX4_length : ByteArray := prog_6_method_2_code
def yX4_length : MethodName := ⟨RX4, "length", "()I"⟩
abbrev cX4_append : ByteArray := prog_6_method_3_code
def yX4_append : MethodName := ⟨RX4, "append", "(C)I"⟩
abbrev cX4_empty : ByteArray := prog_6_method_4_code
def yX4_empty : MethodName := ⟨RX4, "empty", "()I"⟩
abbrev cX4_orders : ByteArray := prog_6_method_5_code
def yX4_orders : MethodName := ⟨RX4, "orders", "()I"⟩
abbrev cX4_kindAt : ByteArray := prog_6_method_6_code
def yX4_kindAt : MethodName := ⟨RX4, "kindAt", "(I)C"⟩
abbrev cX4_numberAt : ByteArray := prog_6_method_7_code
def yX4_numberAt : MethodName := ⟨RX4, "numberAt", "(I)I"⟩
abbrev cX4_readOrders : ByteArray := prog_6_method_8_code
def yX4_readOrders : MethodName := ⟨RX4, "readOrders", "()I"⟩
abbrev cX4_readOrder : ByteArray := prog_6_method_9_code
def yX4_readOrder : MethodName := ⟨RX4, "readOrder", "()Z"⟩
abbrev cX4_readNumber : ByteArray := prog_6_method_10_code
def yX4_readNumber : MethodName := ⟨RX4, "readNumber", "(II)Z"⟩
abbrev cX4_digitAt : ByteArray := prog_6_method_11_code
def yX4_digitAt : MethodName := ⟨RX4, "digitAt", "(I)I"⟩
abbrev cX4_characterAt : ByteArray := prog_6_method_12_code
def yX4_characterAt : MethodName := ⟨RX4, "characterAt", "(I)C"⟩
def RX5 : String := "PocketCards$Told"
def TX5 : u_T := fun k => match k with
  | 0 => ("PocketCards$Told", "row", "[I", true)
  | _ => ("PocketCards$Told", "names", "I", false)
def tyX5 : Nat → FieldType := fun k => match k with
  | 0 => .array .int
  | _ => .int
abbrev wsX50 : List Cond := u_ws RX5 TX5 2
theorem nmX5 : ∀ a, a < 2 → ∀ b, b < 2 → a ≠ b → (TX5 a).2.1 ≠ (TX5 b).2.1 := by decide +kernel
theorem tyX5_ok : ∀ k, k < 2 → parseFieldDescriptor (TX5 k).2.2.1 = some (tyX5 k) := by decide +kernel
abbrev cX5_init : ByteArray := prog_7_method_1_code
def yX5_init : MethodName := ⟨RX5, "<init>", "()V"⟩
abbrev cX5_copyFrom : ByteArray := prog_7_method_2_code
def yX5_copyFrom : MethodName := ⟨RX5, "copyFrom", "(LPocketCards$Told;)V"⟩
abbrev cX5_names : ByteArray := prog_7_method_3_code
def yX5_names : MethodName := ⟨RX5, "names", "()I"⟩
abbrev cX5_nameAt : ByteArray := prog_7_method_4_code
def yX5_nameAt : MethodName := ⟨RX5, "nameAt", "(I)I"⟩
abbrev cX5_add : ByteArray := prog_7_method_5_code
def yX5_add : MethodName := ⟨RX5, "add", "(I)V"⟩
abbrev cX5_empty : ByteArray := prog_7_method_6_code
def yX5_empty : MethodName := ⟨RX5, "empty", "()V"⟩
def RX6 : String := "PocketCards"
def TX6 : u_T := fun k => match k with
  | 0 => ("PocketCards", "state", "LPocketCards$State;", true)
  | 1 => ("PocketCards", "before", "LPocketCards$State;", true)
  | 2 => ("PocketCards", "trial", "LPocketCards$State;", true)
  | 3 => ("PocketCards", "snapshot", "LPocketCards$State;", true)
  | 4 => ("PocketCards", "hasSnapshot", "Z", false)
  | 5 => ("PocketCards", "history", "LPocketCards$History;", true)
  | _ => ("PocketCards", "text", "LPocketCards$Text;", true)
def tyX6 : Nat → FieldType := fun k => match k with
  | 0 => .object "PocketCards$State"
  | 1 => .object "PocketCards$State"
  | 2 => .object "PocketCards$State"
  | 3 => .object "PocketCards$State"
  | 4 => .boolean
  | 5 => .object "PocketCards$History"
  | _ => .object "PocketCards$Text"
abbrev wsX60 : List Cond := u_ws RX6 TX6 7
theorem nmX6 : ∀ a, a < 7 → ∀ b, b < 7 → a ≠ b → (TX6 a).2.1 ≠ (TX6 b).2.1 := by decide +kernel
theorem tyX6_ok : ∀ k, k < 7 → parseFieldDescriptor (TX6 k).2.2.1 = some (tyX6 k) := by decide +kernel
abbrev cX6_init : ByteArray := prog_1_method_1_code
def yX6_init : MethodName := ⟨RX6, "<init>", "()V"⟩
abbrev cX6_put : ByteArray := prog_1_method_2_code
def yX6_put : MethodName := ⟨RX6, "put", "(I)I"⟩
abbrev cX6_take : ByteArray := prog_1_method_3_code
def yX6_take : MethodName := ⟨RX6, "take", "(I)I"⟩
abbrev cX6_sleep : ByteArray := prog_1_method_4_code
def yX6_sleep : MethodName := ⟨RX6, "sleep", "(I)I"⟩
abbrev cX6_wakeAll : ByteArray := prog_1_method_5_code
def yX6_wakeAll : MethodName := ⟨RX6, "wakeAll", "()I"⟩
abbrev cX6_leave : ByteArray := prog_1_method_6_code
def yX6_leave : MethodName := ⟨RX6, "leave", "(II)I"⟩
abbrev cX6_set : ByteArray := prog_1_method_7_code
def yX6_set : MethodName := ⟨RX6, "set", "(II)I"⟩
abbrev cX6_shuffle : ByteArray := prog_1_method_8_code
def yX6_shuffle : MethodName := ⟨RX6, "shuffle", "(I)I"⟩
abbrev cX6_forget : ByteArray := prog_1_method_9_code
def yX6_forget : MethodName := ⟨RX6, "forget", "()I"⟩
abbrev cX6_ask : ByteArray := prog_1_method_10_code
def yX6_ask : MethodName := ⟨RX6, "ask", "(II)I"⟩
abbrev cX6_walk : ByteArray := prog_1_method_11_code
def yX6_walk : MethodName := ⟨RX6, "walk", "(Z)I"⟩
abbrev cX6_frame : ByteArray := prog_1_method_12_code
def yX6_frame : MethodName := ⟨RX6, "frame", "(I)I"⟩
abbrev cX6_rounds : ByteArray := prog_1_method_13_code
def yX6_rounds : MethodName := ⟨RX6, "rounds", "(I)I"⟩
abbrev cX6_type : ByteArray := prog_1_method_14_code
def yX6_type : MethodName := ⟨RX6, "type", "(C)I"⟩
abbrev cX6_clearText : ByteArray := prog_1_method_15_code
def yX6_clearText : MethodName := ⟨RX6, "clearText", "()I"⟩
abbrev cX6_perform : ByteArray := prog_1_method_16_code
def yX6_perform : MethodName := ⟨RX6, "perform", "()I"⟩
abbrev cX6_undo : ByteArray := prog_1_method_17_code
def yX6_undo : MethodName := ⟨RX6, "undo", "()I"⟩
abbrev cX6_keep : ByteArray := prog_1_method_18_code
def yX6_keep : MethodName := ⟨RX6, "keep", "()I"⟩
abbrev cX6_restore : ByteArray := prog_1_method_19_code
def yX6_restore : MethodName := ⟨RX6, "restore", "()I"⟩
abbrev cX6_card : ByteArray := prog_1_method_20_code
def yX6_card : MethodName := ⟨RX6, "card", "(I)I"⟩
abbrev cX6_ofCard : ByteArray := prog_1_method_21_code
def yX6_ofCard : MethodName := ⟨RX6, "ofCard", "(II)I"⟩
abbrev cX6_told : ByteArray := prog_1_method_22_code
def yX6_told : MethodName := ⟨RX6, "told", "(I)I"⟩
abbrev cX6_total : ByteArray := prog_1_method_23_code
def yX6_total : MethodName := ⟨RX6, "total", "(I)I"⟩
abbrev cX6_count : ByteArray := prog_1_method_24_code
def yX6_count : MethodName := ⟨RX6, "count", "(II)I"⟩
abbrev cX6_walkTakes : ByteArray := prog_1_method_25_code
def yX6_walkTakes : MethodName := ⟨RX6, "walkTakes", "(ZI)I"⟩
abbrev cX6_roundsTake : ByteArray := prog_1_method_26_code
def yX6_roundsTake : MethodName := ⟨RX6, "roundsTake", "(II)I"⟩
abbrev cX6_bestFrame : ByteArray := prog_1_method_27_code
def yX6_bestFrame : MethodName := ⟨RX6, "bestFrame", "()I"⟩
abbrev cX6_thickest : ByteArray := prog_1_method_28_code
def yX6_thickest : MethodName := ⟨RX6, "thickest", "(I)I"⟩
abbrev cX6_recorded : ByteArray := prog_1_method_29_code
def yX6_recorded : MethodName := ⟨RX6, "recorded", "(I)I"⟩
abbrev cX6_isBeginning : ByteArray := prog_1_method_30_code
def yX6_isBeginning : MethodName := ⟨RX6, "isBeginning", "(II)Z"⟩
abbrev cX6_isFrameSize : ByteArray := prog_1_method_31_code
def yX6_isFrameSize : MethodName := ⟨RX6, "isFrameSize", "(I)Z"⟩
abbrev cX6_firstBits : ByteArray := prog_1_method_32_code
def yX6_firstBits : MethodName := ⟨RX6, "firstBits", "(II)I"⟩
abbrev cX6_firstOne : ByteArray := prog_1_method_33_code
def yX6_firstOne : MethodName := ⟨RX6, "firstOne", "(I)I"⟩
def RX7 : String := "PocketCardsModel"
def TX7 : u_T := fun k => match k with
  | 0 => ("PocketCardsModel", "z", "[I", true)
  | 1 => ("PocketCardsModel", "spare", "[I", true)
  | 2 => ("PocketCardsModel", "past", "[I", true)
  | 3 => ("PocketCardsModel", "states", "I", false)
  | 4 => ("PocketCardsModel", "kept", "[I", true)
  | 5 => ("PocketCardsModel", "isKept", "Z", false)
  | 6 => ("PocketCardsModel", "text", "[I", true)
  | 7 => ("PocketCardsModel", "length", "I", false)
  | 8 => ("PocketCardsModel", "answerMany", "I", false)
  | 9 => ("PocketCardsModel", "answering", "I", false)
  | 10 => ("PocketCardsModel", "answeringName", "I", false)
  | 11 => ("PocketCardsModel", "unlikeBits", "I", false)
  | 12 => ("PocketCardsModel", "stack", "[I", true)
  | 13 => ("PocketCardsModel", "greatest", "I", false)
  | 14 => ("PocketCardsModel", "drew", "[I", true)
  | 15 => ("PocketCardsModel", "drawn", "[I", true)
  | 16 => ("PocketCardsModel", "signs", "[I", true)
  | 17 => ("PocketCardsModel", "numbers", "[I", true)
  | 18 => ("PocketCardsModel", "orderMany", "I", false)
  | _ => ("PocketCardsModel", "spot", "I", false)
def tyX7 : Nat → FieldType := fun k => match k with
  | 0 => .array .int
  | 1 => .array .int
  | 2 => .array .int
  | 3 => .int
  | 4 => .array .int
  | 5 => .boolean
  | 6 => .array .int
  | 7 => .int
  | 8 => .int
  | 9 => .int
  | 10 => .int
  | 11 => .int
  | 12 => .array .int
  | 13 => .int
  | 14 => .array .int
  | 15 => .array .int
  | 16 => .array .int
  | 17 => .array .int
  | 18 => .int
  | _ => .int
abbrev wsX70 : List Cond := u_ws RX7 TX7 20
theorem nmX7 : ∀ a, a < 20 → ∀ b, b < 20 → a ≠ b → (TX7 a).2.1 ≠ (TX7 b).2.1 := by decide +kernel
theorem tyX7_ok : ∀ k, k < 20 → parseFieldDescriptor (TX7 k).2.2.1 = some (tyX7 k) := by decide +kernel
abbrev cX7_init : ByteArray := prog_9_method_1_code
def yX7_init : MethodName := ⟨RX7, "<init>", "()V"⟩
abbrev cX7_in : ByteArray := prog_9_method_2_code
def yX7_in : MethodName := ⟨RX7, "in", "(III)Z"⟩
abbrev cX7_of : ByteArray := prog_9_method_3_code
def yX7_of : MethodName := ⟨RX7, "of", "(II)I"⟩
abbrev cX7_lay : ByteArray := prog_9_method_4_code
def yX7_lay : MethodName := ⟨RX7, "lay", "(III)V"⟩
abbrev cX7_cardWith : ByteArray := prog_9_method_5_code
def yX7_cardWith : MethodName := ⟨RX7, "cardWith", "(I)I"⟩
abbrev cX7_copyState : ByteArray := prog_9_method_6_code
def yX7_copyState : MethodName := ⟨RX7, "copyState", "([II[II)V"⟩
abbrev cX7_recordRow : ByteArray := prog_9_method_7_code
def yX7_recordRow : MethodName := ⟨RX7, "recordRow", "([I)V"⟩
abbrev cX7_record : ByteArray := prog_9_method_8_code
def yX7_record : MethodName := ⟨RX7, "record", "()V"⟩
abbrev cX7_undo : ByteArray := prog_9_method_9_code
def yX7_undo : MethodName := ⟨RX7, "undo", "()I"⟩
abbrev cX7_keep : ByteArray := prog_9_method_10_code
def yX7_keep : MethodName := ⟨RX7, "keep", "()I"⟩
abbrev cX7_restore : ByteArray := prog_9_method_11_code
def yX7_restore : MethodName := ⟨RX7, "restore", "()I"⟩
abbrev cX7_whyNotPut : ByteArray := prog_9_method_12_code
def yX7_whyNotPut : MethodName := ⟨RX7, "whyNotPut", "(I)I"⟩
abbrev cX7_putNow : ByteArray := prog_9_method_13_code
def yX7_putNow : MethodName := ⟨RX7, "putNow", "(I)V"⟩
abbrev cX7_takeNow : ByteArray := prog_9_method_14_code
def yX7_takeNow : MethodName := ⟨RX7, "takeNow", "(I)V"⟩
abbrev cX7_put : ByteArray := prog_9_method_15_code
def yX7_put : MethodName := ⟨RX7, "put", "(I)I"⟩
abbrev cX7_take : ByteArray := prog_9_method_16_code
def yX7_take : MethodName := ⟨RX7, "take", "(I)I"⟩
abbrev cX7_awake : ByteArray := prog_9_method_17_code
def yX7_awake : MethodName := ⟨RX7, "awake", "()I"⟩
abbrev cX7_sleep : ByteArray := prog_9_method_18_code
def yX7_sleep : MethodName := ⟨RX7, "sleep", "(I)I"⟩
abbrev cX7_wakeNow : ByteArray := prog_9_method_19_code
def yX7_wakeNow : MethodName := ⟨RX7, "wakeNow", "()V"⟩
abbrev cX7_wakeAll : ByteArray := prog_9_method_20_code
def yX7_wakeAll : MethodName := ⟨RX7, "wakeAll", "()I"⟩
abbrev cX7_leave : ByteArray := prog_9_method_21_code
def yX7_leave : MethodName := ⟨RX7, "leave", "(II)I"⟩
abbrev cX7_set : ByteArray := prog_9_method_22_code
def yX7_set : MethodName := ⟨RX7, "set", "(II)I"⟩
abbrev cX7_shuffle : ByteArray := prog_9_method_23_code
def yX7_shuffle : MethodName := ⟨RX7, "shuffle", "(I)I"⟩
abbrev cX7_forget : ByteArray := prog_9_method_24_code
def yX7_forget : MethodName := ⟨RX7, "forget", "()I"⟩
abbrev cX7_tell : ByteArray := prog_9_method_25_code
def yX7_tell : MethodName := ⟨RX7, "tell", "(I)V"⟩
abbrev cX7_letGo : ByteArray := prog_9_method_26_code
def yX7_letGo : MethodName := ⟨RX7, "letGo", "()V"⟩
abbrev cX7_begins : ByteArray := prog_9_method_27_code
def yX7_begins : MethodName := ⟨RX7, "begins", "(III)Z"⟩
abbrev cX7_noAnswer : ByteArray := prog_9_method_28_code
def yX7_noAnswer : MethodName := ⟨RX7, "noAnswer", "()V"⟩
abbrev cX7_answers : ByteArray := prog_9_method_29_code
def yX7_answers : MethodName := ⟨RX7, "answers", "(I)V"⟩
abbrev cX7_clashBit : ByteArray := prog_9_method_30_code
def yX7_clashBit : MethodName := ⟨RX7, "clashBit", "()I"⟩
abbrev cX7_answer : ByteArray := prog_9_method_31_code
def yX7_answer : MethodName := ⟨RX7, "answer", "()I"⟩
abbrev cX7_askNow : ByteArray := prog_9_method_32_code
def yX7_askNow : MethodName := ⟨RX7, "askNow", "(II)I"⟩
abbrev cX7_isBeginning : ByteArray := prog_9_method_33_code
def yX7_isBeginning : MethodName := ⟨RX7, "isBeginning", "(II)Z"⟩
abbrev cX7_ask : ByteArray := prog_9_method_34_code
def yX7_ask : MethodName := ⟨RX7, "ask", "(II)I"⟩
abbrev cX7_walkNow : ByteArray := prog_9_method_35_code
def yX7_walkNow : MethodName := ⟨RX7, "walkNow", "(Z)V"⟩
abbrev cX7_walk : ByteArray := prog_9_method_36_code
def yX7_walk : MethodName := ⟨RX7, "walk", "(Z)I"⟩
abbrev cX7_draw : ByteArray := prog_9_method_37_code
def yX7_draw : MethodName := ⟨RX7, "draw", "(I)I"⟩
abbrev cX7_frameNow : ByteArray := prog_9_method_38_code
def yX7_frameNow : MethodName := ⟨RX7, "frameNow", "(I)V"⟩
abbrev cX7_isSlots : ByteArray := prog_9_method_39_code
def yX7_isSlots : MethodName := ⟨RX7, "isSlots", "(I)Z"⟩
abbrev cX7_frame : ByteArray := prog_9_method_40_code
def yX7_frame : MethodName := ⟨RX7, "frame", "(I)I"⟩
abbrev cX7_nextSize : ByteArray := prog_9_method_41_code
def yX7_nextSize : MethodName := ⟨RX7, "nextSize", "(III)I"⟩
abbrev cX7_roundsNow : ByteArray := prog_9_method_42_code
def yX7_roundsNow : MethodName := ⟨RX7, "roundsNow", "(I)I"⟩
abbrev cX7_rounds : ByteArray := prog_9_method_43_code
def yX7_rounds : MethodName := ⟨RX7, "rounds", "(I)I"⟩
abbrev cX7_type : ByteArray := prog_9_method_44_code
def yX7_type : MethodName := ⟨RX7, "type", "(C)I"⟩
abbrev cX7_clearText : ByteArray := prog_9_method_45_code
def yX7_clearText : MethodName := ⟨RX7, "clearText", "()I"⟩
abbrev cX7_sees : ByteArray := prog_9_method_46_code
def yX7_sees : MethodName := ⟨RX7, "sees", "(II)Z"⟩
abbrev cX7_takes : ByteArray := prog_9_method_47_code
def yX7_takes : MethodName := ⟨RX7, "takes", "(I)Z"⟩
abbrev cX7_number : ByteArray := prog_9_method_48_code
def yX7_number : MethodName := ⟨RX7, "number", "(II)I"⟩
abbrev cX7_readOrder : ByteArray := prog_9_method_49_code
def yX7_readOrder : MethodName := ⟨RX7, "readOrder", "()Z"⟩
abbrev cX7_readText : ByteArray := prog_9_method_50_code
def yX7_readText : MethodName := ⟨RX7, "readText", "()Z"⟩
abbrev cX7_whyNot : ByteArray := prog_9_method_51_code
def yX7_whyNot : MethodName := ⟨RX7, "whyNot", "(II)I"⟩
abbrev cX7_carryOut : ByteArray := prog_9_method_52_code
def yX7_carryOut : MethodName := ⟨RX7, "carryOut", "(II)V"⟩
abbrev cX7_perform : ByteArray := prog_9_method_53_code
def yX7_perform : MethodName := ⟨RX7, "perform", "()I"⟩
abbrev cX7_card : ByteArray := prog_9_method_54_code
def yX7_card : MethodName := ⟨RX7, "card", "(I)I"⟩
abbrev cX7_shares : ByteArray := prog_9_method_55_code
def yX7_shares : MethodName := ⟨RX7, "shares", "(I)I"⟩
abbrev cX7_ofCard : ByteArray := prog_9_method_56_code
def yX7_ofCard : MethodName := ⟨RX7, "ofCard", "(II)I"⟩
abbrev cX7_told : ByteArray := prog_9_method_57_code
def yX7_told : MethodName := ⟨RX7, "told", "(I)I"⟩
abbrev cX7_leaving : ByteArray := prog_9_method_58_code
def yX7_leaving : MethodName := ⟨RX7, "leaving", "()I"⟩
abbrev cX7_total : ByteArray := prog_9_method_59_code
def yX7_total : MethodName := ⟨RX7, "total", "(I)I"⟩
abbrev cX7_withBeginning : ByteArray := prog_9_method_60_code
def yX7_withBeginning : MethodName := ⟨RX7, "withBeginning", "(II)I"⟩
abbrev cX7_count : ByteArray := prog_9_method_61_code
def yX7_count : MethodName := ⟨RX7, "count", "(II)I"⟩
abbrev cX7_walkTakes : ByteArray := prog_9_method_62_code
def yX7_walkTakes : MethodName := ⟨RX7, "walkTakes", "(ZI)I"⟩
abbrev cX7_roundsTake : ByteArray := prog_9_method_63_code
def yX7_roundsTake : MethodName := ⟨RX7, "roundsTake", "(II)I"⟩
abbrev cX7_bestFrame : ByteArray := prog_9_method_64_code
def yX7_bestFrame : MethodName := ⟨RX7, "bestFrame", "()I"⟩
abbrev cX7_thickest : ByteArray := prog_9_method_65_code
def yX7_thickest : MethodName := ⟨RX7, "thickest", "(I)I"⟩
def RL : String := "PocketCardsLaw"
abbrev cL_law : ByteArray := code
def yL_law : MethodName := ⟨RL, "law", "([I)Z"⟩
abbrev vwCl : List vw_C := [(RX0, TX0, 2), (RX1, TX1, 7), (RX2, TX2, 7), (RX3, TX3, 8), (RX4, TX4, 7), (RX5, TX5, 2), (RX6, TX6, 7), (RX7, TX7, 20)]
theorem inX0 : ∀ w ∈ wsX00, w ∈ lw_tbl := by decide +kernel
theorem inX1 : ∀ w ∈ wsX10, w ∈ lw_tbl := by decide +kernel
theorem inX2 : ∀ w ∈ wsX20, w ∈ lw_tbl := by decide +kernel
theorem inX3 : ∀ w ∈ wsX30, w ∈ lw_tbl := by decide +kernel
theorem inX4 : ∀ w ∈ wsX40, w ∈ lw_tbl := by decide +kernel
theorem inX5 : ∀ w ∈ wsX50, w ∈ lw_tbl := by decide +kernel
theorem inX6 : ∀ w ∈ wsX60, w ∈ lw_tbl := by decide +kernel
theorem inX7 : ∀ w ∈ wsX70, w ∈ lw_tbl := by decide +kernel
end
section
/-! what the tables say, numbers of classes -/
def tbG : List Cond := lw_tbl.filter goodWord
theorem mg {w : Cond} (i : Nat) (h : lw_tbl[i]? = some w) (hg : goodWord w = true) : w ∈ tbG := List.mem_filter.mpr ⟨List.mem_of_getElem? h, hg⟩
abbrev MD : Type := MethodName × ByteArray × Nat × Option FieldType × (Nat × Nat)
def cN (ci : Nat) : Nat := match ci with | 0 => 2 | 1 => 7 | 2 => 7 | 3 => 8 | 4 => 7 | 5 => 2 | 6 => 7 | _ => 20
def cR (ci : Nat) : String := match ci with | 0 => RX0 | 1 => RX1 | 2 => RX2 | 3 => RX3 | 4 => RX4 | 5 => RX5 | 6 => RX6 | _ => RX7
def cU (ci : Nat) : u_T := match ci with | 0 => TX0 | 1 => TX1 | 2 => TX2 | 3 => TX3 | 4 => TX4 | 5 => TX5 | 6 => TX6 | _ => TX7
def nsL : List (String × Nat × MethodName × String) := [(RX2, 11, yX1_init, "PocketCards"), (RX2, 20, yX5_init, "PocketCards"), (RX2, 27, yX3_init, "PocketCards"), (RX6, 38, yX4_init, "PocketCards"), (RX1, 52, yX6_firstBits, "PocketCards"), (RX2, 142, yX6_firstOne, "PocketCards"), (RX2, 157, yX6_isBeginning, "PocketCards"), (RX2, 164, yX6_firstBits, "PocketCards"), (RX2, 167, yX6_isFrameSize, "PocketCards"), (RX1, 39, yX6_firstOne, "PocketCards")]
def MO (md : MD) (n : Nat) : Prop := Cond.initialized md.1.cls ∈ tbG ∧ Cond.code md.1 md.2.1 md.2.2.1 md.2.2.2.1 ∈ tbG ∧ (md.1.cls ≠ "java/lang/invoke/MethodHandle" ∧ md.1.cls ≠ "java/lang/invoke/VarHandle" ∧ (parseMethodDescriptor md.1.desc).map (fun d => d.parameters.length) = some n) ∧ md.2.2.1 ≤ 20 ∧ plainName md.1.cls = true
end
section
abbrev m_X0_init : MD := (yX0_init, cX0_init, 2, none, (49, 1388))
abbrev m_X0_states : MD := (yX0_states, cX0_states, 1, some .int, (0, 0))
abbrev m_X0_add : MD := (yX0_add, cX0_add, 2, none, (0, 0))
abbrev m_X0_dropOldest : MD := (yX0_dropOldest, cX0_dropOldest, 3, none, (0, 0))
abbrev m_X0_backTo : MD := (yX0_backTo, cX0_backTo, 2, some .int, (0, 0))
abbrev m_X1_init : MD := (yX1_init, cX1_init, 1, none, (6, 120))
abbrev m_X1_copyFrom : MD := (yX1_copyFrom, cX1_copyFrom, 3, none, (0, 0))
abbrev m_X1_cards : MD := (yX1_cards, cX1_cards, 1, some .int, (0, 0))
abbrev m_X1_isCard : MD := (yX1_isCard, cX1_isCard, 2, some .boolean, (0, 0))
abbrev m_X1_placeOf : MD := (yX1_placeOf, cX1_placeOf, 3, some .int, (0, 0))
abbrev m_X1_nameAt : MD := (yX1_nameAt, cX1_nameAt, 2, some .int, (0, 0))
abbrev m_X1_isAwake : MD := (yX1_isAwake, cX1_isAwake, 2, some .boolean, (0, 0))
abbrev m_X1_asksToGo : MD := (yX1_asksToGo, cX1_asksToGo, 2, some .int, (0, 0))
abbrev m_X1_tellings : MD := (yX1_tellings, cX1_tellings, 2, some .int, (0, 0))
abbrev m_X1_sharedBits : MD := (yX1_sharedBits, cX1_sharedBits, 4, some .int, (0, 0))
abbrev m_X1_awakeCards : MD := (yX1_awakeCards, cX1_awakeCards, 1, some .int, (0, 0))
abbrev m_X1_awakeWith : MD := (yX1_awakeWith, cX1_awakeWith, 5, some .int, (0, 0))
abbrev m_X1_leavingCards : MD := (yX1_leavingCards, cX1_leavingCards, 3, some .int, (0, 0))
abbrev m_X1_insert : MD := (yX1_insert, cX1_insert, 3, none, (0, 0))
abbrev m_X1_removeAt : MD := (yX1_removeAt, cX1_removeAt, 3, none, (0, 0))
abbrev m_X1_moveCard : MD := (yX1_moveCard, cX1_moveCard, 3, none, (0, 0))
abbrev m_X1_sleepAt : MD := (yX1_sleepAt, cX1_sleepAt, 2, none, (0, 0))
abbrev m_X1_wakeEach : MD := (yX1_wakeEach, cX1_wakeEach, 2, none, (0, 0))
abbrev m_X1_leaveAt : MD := (yX1_leaveAt, cX1_leaveAt, 3, none, (0, 0))
abbrev m_X1_tellAt : MD := (yX1_tellAt, cX1_tellAt, 2, none, (0, 0))
abbrev m_X1_slotAt : MD := (yX1_slotAt, cX1_slotAt, 3, none, (0, 0))
abbrev m_X1_letAnswer : MD := (yX1_letAnswer, cX1_letAnswer, 4, none, (0, 0))
abbrev m_X1_letAnswerIn : MD := (yX1_letAnswerIn, cX1_letAnswerIn, 3, none, (0, 0))
abbrev m_X1_firstAnswering : MD := (yX1_firstAnswering, cX1_firstAnswering, 2, some .int, (0, 0))
abbrev m_X1_differencesFrom : MD := (yX1_differencesFrom, cX1_differencesFrom, 4, some .int, (0, 0))
abbrev m_X1_passAsk : MD := (yX1_passAsk, cX1_passAsk, 4, some .int, (0, 0))
abbrev m_X2_init : MD := (yX2_init, cX2_init, 1, none, (11, 339))
abbrev m_X2_copyFrom : MD := (yX2_copyFrom, cX2_copyFrom, 2, none, (0, 0))
abbrev m_X2_putCard : MD := (yX2_putCard, cX2_putCard, 2, some .int, (0, 0))
abbrev m_X2_takeCard : MD := (yX2_takeCard, cX2_takeCard, 3, some .int, (0, 0))
abbrev m_X2_sleepCard : MD := (yX2_sleepCard, cX2_sleepCard, 3, some .int, (0, 0))
abbrev m_X2_wakeCards : MD := (yX2_wakeCards, cX2_wakeCards, 2, some .int, (0, 0))
abbrev m_X2_leaveBehind : MD := (yX2_leaveBehind, cX2_leaveBehind, 5, some .int, (0, 0))
abbrev m_X2_setTo : MD := (yX2_setTo, cX2_setTo, 5, some .int, (0, 0))
abbrev m_X2_valueOf : MD := (yX2_valueOf, cX2_valueOf, 2, some .int, (0, 0))
abbrev m_X2_shuffleTo : MD := (yX2_shuffleTo, cX2_shuffleTo, 3, some .int, (0, 0))
abbrev m_X2_forgetTold : MD := (yX2_forgetTold, cX2_forgetTold, 2, some .int, (0, 0))
abbrev m_X2_askFor : MD := (yX2_askFor, cX2_askFor, 4, some .int, (0, 0))
abbrev m_X2_hear : MD := (yX2_hear, cX2_hear, 4, some .int, (0, 0))
abbrev m_X2_makeWalk : MD := (yX2_makeWalk, cX2_makeWalk, 3, some .int, (0, 0))
abbrev m_X2_walkFrom : MD := (yX2_walkFrom, cX2_walkFrom, 7, none, (0, 0))
abbrev m_X2_makeFrame : MD := (yX2_makeFrame, cX2_makeFrame, 5, some .int, (0, 0))
abbrev m_X2_drawSlots : MD := (yX2_drawSlots, cX2_drawSlots, 4, none, (0, 0))
abbrev m_X2_draw : MD := (yX2_draw, cX2_draw, 2, some .int, (0, 0))
abbrev m_X2_makeRounds : MD := (yX2_makeRounds, cX2_makeRounds, 6, some .int, (0, 0))
abbrev m_X2_nextSize : MD := (yX2_nextSize, cX2_nextSize, 5, some .int, (0, 0))
abbrev m_X2_carryOut : MD := (yX2_carryOut, cX2_carryOut, 3, some .int, (0, 0))
abbrev m_X3_init : MD := (yX3_init, cX3_init, 1, none, (0, 0))
abbrev m_X3_copyFrom : MD := (yX3_copyFrom, cX3_copyFrom, 2, none, (0, 0))
abbrev m_X3_numberOf : MD := (yX3_numberOf, cX3_numberOf, 2, some .int, (0, 0))
abbrev m_X4_init : MD := (yX4_init, cX4_init, 1, none, (3, 120))
abbrev m_X4_length : MD := (yX4_length, cX4_length, 1, some .int, (0, 0))
abbrev m_X4_append : MD := (yX4_append, cX4_append, 2, some .int, (0, 0))
abbrev m_X4_empty : MD := (yX4_empty, cX4_empty, 2, some .int, (0, 0))
abbrev m_X4_orders : MD := (yX4_orders, cX4_orders, 1, some .int, (0, 0))
abbrev m_X4_kindAt : MD := (yX4_kindAt, cX4_kindAt, 2, some .char, (0, 0))
abbrev m_X4_numberAt : MD := (yX4_numberAt, cX4_numberAt, 2, some .int, (0, 0))
abbrev m_X4_readOrders : MD := (yX4_readOrders, cX4_readOrders, 2, some .int, (0, 0))
abbrev m_X4_readOrder : MD := (yX4_readOrder, cX4_readOrder, 5, some .boolean, (0, 0))
abbrev m_X4_readNumber : MD := (yX4_readNumber, cX4_readNumber, 6, some .boolean, (0, 0))
abbrev m_X4_digitAt : MD := (yX4_digitAt, cX4_digitAt, 3, some .int, (0, 0))
abbrev m_X4_characterAt : MD := (yX4_characterAt, cX4_characterAt, 3, some .char, (0, 0))
abbrev m_X5_init : MD := (yX5_init, cX5_init, 1, none, (1, 200))
abbrev m_X5_copyFrom : MD := (yX5_copyFrom, cX5_copyFrom, 2, none, (0, 0))
abbrev m_X5_names : MD := (yX5_names, cX5_names, 1, some .int, (0, 0))
abbrev m_X5_nameAt : MD := (yX5_nameAt, cX5_nameAt, 2, some .int, (0, 0))
abbrev m_X5_add : MD := (yX5_add, cX5_add, 2, none, (0, 0))
abbrev m_X5_empty : MD := (yX5_empty, cX5_empty, 1, none, (0, 0))
abbrev m_X6_init : MD := (yX6_init, cX6_init, 1, none, (102, 2901))
abbrev m_X6_put : MD := (yX6_put, cX6_put, 2, some .int, (0, 0))
abbrev m_X6_take : MD := (yX6_take, cX6_take, 2, some .int, (0, 0))
abbrev m_X6_sleep : MD := (yX6_sleep, cX6_sleep, 2, some .int, (0, 0))
abbrev m_X6_wakeAll : MD := (yX6_wakeAll, cX6_wakeAll, 1, some .int, (0, 0))
abbrev m_X6_leave : MD := (yX6_leave, cX6_leave, 3, some .int, (0, 0))
abbrev m_X6_set : MD := (yX6_set, cX6_set, 3, some .int, (0, 0))
abbrev m_X6_shuffle : MD := (yX6_shuffle, cX6_shuffle, 2, some .int, (0, 0))
abbrev m_X6_forget : MD := (yX6_forget, cX6_forget, 1, some .int, (0, 0))
abbrev m_X6_ask : MD := (yX6_ask, cX6_ask, 3, some .int, (0, 0))
abbrev m_X6_walk : MD := (yX6_walk, cX6_walk, 2, some .int, (0, 0))
abbrev m_X6_frame : MD := (yX6_frame, cX6_frame, 2, some .int, (0, 0))
abbrev m_X6_rounds : MD := (yX6_rounds, cX6_rounds, 2, some .int, (0, 0))
abbrev m_X6_type : MD := (yX6_type, cX6_type, 2, some .int, (0, 0))
abbrev m_X6_clearText : MD := (yX6_clearText, cX6_clearText, 1, some .int, (0, 0))
abbrev m_X6_perform : MD := (yX6_perform, cX6_perform, 5, some .int, (0, 0))
abbrev m_X6_undo : MD := (yX6_undo, cX6_undo, 1, some .int, (0, 0))
abbrev m_X6_keep : MD := (yX6_keep, cX6_keep, 1, some .int, (0, 0))
abbrev m_X6_restore : MD := (yX6_restore, cX6_restore, 1, some .int, (0, 0))
abbrev m_X6_card : MD := (yX6_card, cX6_card, 2, some .int, (0, 0))
abbrev m_X6_ofCard : MD := (yX6_ofCard, cX6_ofCard, 5, some .int, (0, 0))
abbrev m_X6_told : MD := (yX6_told, cX6_told, 2, some .int, (0, 0))
abbrev m_X6_total : MD := (yX6_total, cX6_total, 2, some .int, (0, 0))
abbrev m_X6_count : MD := (yX6_count, cX6_count, 3, some .int, (0, 0))
abbrev m_X6_walkTakes : MD := (yX6_walkTakes, cX6_walkTakes, 4, some .int, (0, 0))
abbrev m_X6_roundsTake : MD := (yX6_roundsTake, cX6_roundsTake, 4, some .int, (0, 0))
abbrev m_X6_bestFrame : MD := (yX6_bestFrame, cX6_bestFrame, 7, some .int, (0, 0))
abbrev m_X6_thickest : MD := (yX6_thickest, cX6_thickest, 6, some .int, (0, 0))
abbrev m_X6_recorded : MD := (yX6_recorded, cX6_recorded, 2, some .int, (0, 0))
abbrev m_X6_isBeginning : MD := (yX6_isBeginning, cX6_isBeginning, 2, some .boolean, (0, 0))
abbrev m_X6_isFrameSize : MD := (yX6_isFrameSize, cX6_isFrameSize, 1, some .boolean, (0, 0))
abbrev m_X6_firstBits : MD := (yX6_firstBits, cX6_firstBits, 2, some .int, (0, 0))
abbrev m_X6_firstOne : MD := (yX6_firstOne, cX6_firstOne, 2, some .int, (0, 0))
abbrev m_X7_init : MD := (yX7_init, cX7_init, 1, none, (10, 2233))
abbrev m_X7_in : MD := (yX7_in, cX7_in, 3, some .boolean, (0, 0))
abbrev m_X7_of : MD := (yX7_of, cX7_of, 3, some .int, (0, 0))
abbrev m_X7_lay : MD := (yX7_lay, cX7_lay, 4, none, (0, 0))
abbrev m_X7_cardWith : MD := (yX7_cardWith, cX7_cardWith, 4, some .int, (0, 0))
abbrev m_X7_copyState : MD := (yX7_copyState, cX7_copyState, 5, none, (0, 0))
abbrev m_X7_recordRow : MD := (yX7_recordRow, cX7_recordRow, 3, none, (0, 0))
abbrev m_X7_record : MD := (yX7_record, cX7_record, 1, none, (0, 0))
abbrev m_X7_undo : MD := (yX7_undo, cX7_undo, 1, some .int, (0, 0))
abbrev m_X7_keep : MD := (yX7_keep, cX7_keep, 1, some .int, (0, 0))
abbrev m_X7_restore : MD := (yX7_restore, cX7_restore, 1, some .int, (0, 0))
abbrev m_X7_whyNotPut : MD := (yX7_whyNotPut, cX7_whyNotPut, 2, some .int, (0, 0))
abbrev m_X7_putNow : MD := (yX7_putNow, cX7_putNow, 4, none, (0, 0))
abbrev m_X7_takeNow : MD := (yX7_takeNow, cX7_takeNow, 3, none, (0, 0))
abbrev m_X7_put : MD := (yX7_put, cX7_put, 3, some .int, (0, 0))
abbrev m_X7_take : MD := (yX7_take, cX7_take, 3, some .int, (0, 0))
abbrev m_X7_awake : MD := (yX7_awake, cX7_awake, 3, some .int, (0, 0))
abbrev m_X7_sleep : MD := (yX7_sleep, cX7_sleep, 3, some .int, (0, 0))
abbrev m_X7_wakeNow : MD := (yX7_wakeNow, cX7_wakeNow, 2, none, (0, 0))
abbrev m_X7_wakeAll : MD := (yX7_wakeAll, cX7_wakeAll, 2, some .int, (0, 0))
abbrev m_X7_leave : MD := (yX7_leave, cX7_leave, 5, some .int, (0, 0))
abbrev m_X7_set : MD := (yX7_set, cX7_set, 4, some .int, (0, 0))
abbrev m_X7_shuffle : MD := (yX7_shuffle, cX7_shuffle, 3, some .int, (0, 0))
abbrev m_X7_forget : MD := (yX7_forget, cX7_forget, 2, some .int, (0, 0))
abbrev m_X7_tell : MD := (yX7_tell, cX7_tell, 3, none, (0, 0))
abbrev m_X7_letGo : MD := (yX7_letGo, cX7_letGo, 2, none, (0, 0))
abbrev m_X7_begins : MD := (yX7_begins, cX7_begins, 3, some .boolean, (0, 0))
abbrev m_X7_noAnswer : MD := (yX7_noAnswer, cX7_noAnswer, 1, none, (0, 0))
abbrev m_X7_answers : MD := (yX7_answers, cX7_answers, 2, none, (0, 0))
abbrev m_X7_clashBit : MD := (yX7_clashBit, cX7_clashBit, 2, some .int, (0, 0))
abbrev m_X7_answer : MD := (yX7_answer, cX7_answer, 2, some .int, (0, 0))
abbrev m_X7_askNow : MD := (yX7_askNow, cX7_askNow, 4, some .int, (0, 0))
abbrev m_X7_isBeginning : MD := (yX7_isBeginning, cX7_isBeginning, 2, some .boolean, (0, 0))
abbrev m_X7_ask : MD := (yX7_ask, cX7_ask, 3, some .int, (0, 0))
abbrev m_X7_walkNow : MD := (yX7_walkNow, cX7_walkNow, 8, none, (0, 0))
abbrev m_X7_walk : MD := (yX7_walk, cX7_walk, 3, some .int, (0, 0))
abbrev m_X7_draw : MD := (yX7_draw, cX7_draw, 2, some .int, (0, 0))
abbrev m_X7_frameNow : MD := (yX7_frameNow, cX7_frameNow, 6, none, (0, 0))
abbrev m_X7_isSlots : MD := (yX7_isSlots, cX7_isSlots, 1, some .boolean, (0, 0))
abbrev m_X7_frame : MD := (yX7_frame, cX7_frame, 3, some .int, (0, 0))
abbrev m_X7_nextSize : MD := (yX7_nextSize, cX7_nextSize, 5, some .int, (0, 0))
abbrev m_X7_roundsNow : MD := (yX7_roundsNow, cX7_roundsNow, 7, some .int, (0, 0))
abbrev m_X7_rounds : MD := (yX7_rounds, cX7_rounds, 2, some .int, (0, 0))
abbrev m_X7_type : MD := (yX7_type, cX7_type, 2, some .int, (0, 0))
abbrev m_X7_clearText : MD := (yX7_clearText, cX7_clearText, 2, some .int, (0, 0))
abbrev m_X7_sees : MD := (yX7_sees, cX7_sees, 3, some .boolean, (0, 0))
abbrev m_X7_takes : MD := (yX7_takes, cX7_takes, 3, some .boolean, (0, 0))
abbrev m_X7_number : MD := (yX7_number, cX7_number, 4, some .int, (0, 0))
abbrev m_X7_readOrder : MD := (yX7_readOrder, cX7_readOrder, 4, some .boolean, (0, 0))
abbrev m_X7_readText : MD := (yX7_readText, cX7_readText, 2, some .boolean, (0, 0))
abbrev m_X7_whyNot : MD := (yX7_whyNot, cX7_whyNot, 3, some .int, (0, 0))
abbrev m_X7_carryOut : MD := (yX7_carryOut, cX7_carryOut, 3, none, (0, 0))
abbrev m_X7_perform : MD := (yX7_perform, cX7_perform, 3, some .int, (0, 0))
abbrev m_X7_card : MD := (yX7_card, cX7_card, 2, some .int, (0, 0))
abbrev m_X7_shares : MD := (yX7_shares, cX7_shares, 5, some .int, (0, 0))
abbrev m_X7_ofCard : MD := (yX7_ofCard, cX7_ofCard, 4, some .int, (0, 0))
abbrev m_X7_told : MD := (yX7_told, cX7_told, 2, some .int, (0, 0))
abbrev m_X7_leaving : MD := (yX7_leaving, cX7_leaving, 3, some .int, (0, 0))
abbrev m_X7_total : MD := (yX7_total, cX7_total, 2, some .int, (0, 0))
abbrev m_X7_withBeginning : MD := (yX7_withBeginning, cX7_withBeginning, 5, some .int, (0, 0))
abbrev m_X7_count : MD := (yX7_count, cX7_count, 3, some .int, (0, 0))
abbrev m_X7_walkTakes : MD := (yX7_walkTakes, cX7_walkTakes, 5, some .int, (0, 0))
abbrev m_X7_roundsTake : MD := (yX7_roundsTake, cX7_roundsTake, 5, some .int, (0, 0))
abbrev m_X7_bestFrame : MD := (yX7_bestFrame, cX7_bestFrame, 8, some .int, (0, 0))
abbrev m_X7_thickest : MD := (yX7_thickest, cX7_thickest, 6, some .int, (0, 0))
abbrev m_L_law : MD := (yL_law, cL_law, 4, some .boolean, (600000, 7302249))
theorem mo_X0_init : MO m_X0_init 0 := ⟨mg 50 (by decide +kernel) (by decide +kernel), mg 187 (by decide +kernel) (by decide +kernel), ⟨by decide +kernel, by decide +kernel, by decide +kernel⟩, by decide, by decide +kernel⟩
theorem im_X0_init : Cond.instanceMethod yX0_init ∈ tbG := mg 186 (by decide +kernel) (by decide +kernel)
theorem mo_X0_states : MO m_X0_states 0 := ⟨mg 50 (by decide +kernel) (by decide +kernel), mg 644 (by decide +kernel) (by decide +kernel), ⟨by decide +kernel, by decide +kernel, by decide +kernel⟩, by decide, by decide +kernel⟩
theorem im_X0_states : Cond.instanceMethod yX0_states ∈ tbG := mg 642 (by decide +kernel) (by decide +kernel)
theorem se_X0_states : Cond.selects yX0_states.cls yX0_states yX0_states ∈ tbG := mg 643 (by decide +kernel) (by decide +kernel)
theorem mo_X0_add : MO m_X0_add 1 := ⟨mg 50 (by decide +kernel) (by decide +kernel), mg 301 (by decide +kernel) (by decide +kernel), ⟨by decide +kernel, by decide +kernel, by decide +kernel⟩, by decide, by decide +kernel⟩
theorem im_X0_add : Cond.instanceMethod yX0_add ∈ tbG := mg 299 (by decide +kernel) (by decide +kernel)
theorem se_X0_add : Cond.selects yX0_add.cls yX0_add yX0_add ∈ tbG := mg 300 (by decide +kernel) (by decide +kernel)
theorem mo_X0_dropOldest : MO m_X0_dropOldest 0 := ⟨mg 50 (by decide +kernel) (by decide +kernel), mg 305 (by decide +kernel) (by decide +kernel), ⟨by decide +kernel, by decide +kernel, by decide +kernel⟩, by decide, by decide +kernel⟩
theorem im_X0_dropOldest : Cond.instanceMethod yX0_dropOldest ∈ tbG := mg 304 (by decide +kernel) (by decide +kernel)
theorem se_X0_dropOldest : Cond.selects yX0_dropOldest.cls yX0_dropOldest yX0_dropOldest ∈ tbG := mg 2 (by decide +kernel) (by decide +kernel)
theorem mo_X0_backTo : MO m_X0_backTo 1 := ⟨mg 50 (by decide +kernel) (by decide +kernel), mg 587 (by decide +kernel) (by decide +kernel), ⟨by decide +kernel, by decide +kernel, by decide +kernel⟩, by decide, by decide +kernel⟩
theorem im_X0_backTo : Cond.instanceMethod yX0_backTo ∈ tbG := mg 585 (by decide +kernel) (by decide +kernel)
theorem se_X0_backTo : Cond.selects yX0_backTo.cls yX0_backTo yX0_backTo ∈ tbG := mg 586 (by decide +kernel) (by decide +kernel)
theorem mo_X1_init : MO m_X1_init 0 := ⟨mg 47 (by decide +kernel) (by decide +kernel), mg 73 (by decide +kernel) (by decide +kernel), ⟨by decide +kernel, by decide +kernel, by decide +kernel⟩, by decide, by decide +kernel⟩
theorem im_X1_init : Cond.instanceMethod yX1_init ∈ tbG := mg 72 (by decide +kernel) (by decide +kernel)
theorem mo_X1_copyFrom : MO m_X1_copyFrom 1 := ⟨mg 47 (by decide +kernel) (by decide +kernel), mg 261 (by decide +kernel) (by decide +kernel), ⟨by decide +kernel, by decide +kernel, by decide +kernel⟩, by decide, by decide +kernel⟩
theorem im_X1_copyFrom : Cond.instanceMethod yX1_copyFrom ∈ tbG := mg 259 (by decide +kernel) (by decide +kernel)
theorem se_X1_copyFrom : Cond.selects yX1_copyFrom.cls yX1_copyFrom yX1_copyFrom ∈ tbG := mg 260 (by decide +kernel) (by decide +kernel)
theorem mo_X1_cards : MO m_X1_cards 0 := ⟨mg 47 (by decide +kernel) (by decide +kernel), mg 285 (by decide +kernel) (by decide +kernel), ⟨by decide +kernel, by decide +kernel, by decide +kernel⟩, by decide, by decide +kernel⟩
theorem im_X1_cards : Cond.instanceMethod yX1_cards ∈ tbG := mg 283 (by decide +kernel) (by decide +kernel)
theorem se_X1_cards : Cond.selects yX1_cards.cls yX1_cards yX1_cards ∈ tbG := mg 284 (by decide +kernel) (by decide +kernel)
theorem mo_X1_isCard : MO m_X1_isCard 1 := ⟨mg 47 (by decide +kernel) (by decide +kernel), mg 322 (by decide +kernel) (by decide +kernel), ⟨by decide +kernel, by decide +kernel, by decide +kernel⟩, by decide, by decide +kernel⟩
theorem im_X1_isCard : Cond.instanceMethod yX1_isCard ∈ tbG := mg 321 (by decide +kernel) (by decide +kernel)
theorem se_X1_isCard : Cond.selects yX1_isCard.cls yX1_isCard yX1_isCard ∈ tbG := mg 3 (by decide +kernel) (by decide +kernel)
theorem mo_X1_placeOf : MO m_X1_placeOf 1 := ⟨mg 47 (by decide +kernel) (by decide +kernel), mg 281 (by decide +kernel) (by decide +kernel), ⟨by decide +kernel, by decide +kernel, by decide +kernel⟩, by decide, by decide +kernel⟩
theorem im_X1_placeOf : Cond.instanceMethod yX1_placeOf ∈ tbG := mg 279 (by decide +kernel) (by decide +kernel)
theorem se_X1_placeOf : Cond.selects yX1_placeOf.cls yX1_placeOf yX1_placeOf ∈ tbG := mg 280 (by decide +kernel) (by decide +kernel)
theorem mo_X1_nameAt : MO m_X1_nameAt 1 := ⟨mg 47 (by decide +kernel) (by decide +kernel), mg 436 (by decide +kernel) (by decide +kernel), ⟨by decide +kernel, by decide +kernel, by decide +kernel⟩, by decide, by decide +kernel⟩
theorem im_X1_nameAt : Cond.instanceMethod yX1_nameAt ∈ tbG := mg 434 (by decide +kernel) (by decide +kernel)
theorem se_X1_nameAt : Cond.selects yX1_nameAt.cls yX1_nameAt yX1_nameAt ∈ tbG := mg 435 (by decide +kernel) (by decide +kernel)
theorem mo_X1_isAwake : MO m_X1_isAwake 1 := ⟨mg 47 (by decide +kernel) (by decide +kernel), mg 334 (by decide +kernel) (by decide +kernel), ⟨by decide +kernel, by decide +kernel, by decide +kernel⟩, by decide, by decide +kernel⟩
theorem im_X1_isAwake : Cond.instanceMethod yX1_isAwake ∈ tbG := mg 332 (by decide +kernel) (by decide +kernel)
theorem se_X1_isAwake : Cond.selects yX1_isAwake.cls yX1_isAwake yX1_isAwake ∈ tbG := mg 333 (by decide +kernel) (by decide +kernel)
theorem mo_X1_asksToGo : MO m_X1_asksToGo 1 := ⟨mg 47 (by decide +kernel) (by decide +kernel), mg 373 (by decide +kernel) (by decide +kernel), ⟨by decide +kernel, by decide +kernel, by decide +kernel⟩, by decide, by decide +kernel⟩
theorem im_X1_asksToGo : Cond.instanceMethod yX1_asksToGo ∈ tbG := mg 371 (by decide +kernel) (by decide +kernel)
theorem se_X1_asksToGo : Cond.selects yX1_asksToGo.cls yX1_asksToGo yX1_asksToGo ∈ tbG := mg 372 (by decide +kernel) (by decide +kernel)
theorem mo_X1_tellings : MO m_X1_tellings 1 := ⟨mg 47 (by decide +kernel) (by decide +kernel), mg 612 (by decide +kernel) (by decide +kernel), ⟨by decide +kernel, by decide +kernel, by decide +kernel⟩, by decide, by decide +kernel⟩
theorem im_X1_tellings : Cond.instanceMethod yX1_tellings ∈ tbG := mg 610 (by decide +kernel) (by decide +kernel)
theorem se_X1_tellings : Cond.selects yX1_tellings.cls yX1_tellings yX1_tellings ∈ tbG := mg 611 (by decide +kernel) (by decide +kernel)
theorem mo_X1_sharedBits : MO m_X1_sharedBits 1 := ⟨mg 47 (by decide +kernel) (by decide +kernel), mg 616 (by decide +kernel) (by decide +kernel), ⟨by decide +kernel, by decide +kernel, by decide +kernel⟩, by decide, by decide +kernel⟩
theorem im_X1_sharedBits : Cond.instanceMethod yX1_sharedBits ∈ tbG := mg 614 (by decide +kernel) (by decide +kernel)
theorem se_X1_sharedBits : Cond.selects yX1_sharedBits.cls yX1_sharedBits yX1_sharedBits ∈ tbG := mg 615 (by decide +kernel) (by decide +kernel)
theorem mo_X1_awakeCards : MO m_X1_awakeCards 0 := ⟨mg 47 (by decide +kernel) (by decide +kernel), mg 342 (by decide +kernel) (by decide +kernel), ⟨by decide +kernel, by decide +kernel, by decide +kernel⟩, by decide, by decide +kernel⟩
theorem im_X1_awakeCards : Cond.instanceMethod yX1_awakeCards ∈ tbG := mg 340 (by decide +kernel) (by decide +kernel)
theorem se_X1_awakeCards : Cond.selects yX1_awakeCards.cls yX1_awakeCards yX1_awakeCards ∈ tbG := mg 341 (by decide +kernel) (by decide +kernel)
theorem mo_X1_awakeWith : MO m_X1_awakeWith 2 := ⟨mg 47 (by decide +kernel) (by decide +kernel), mg 346 (by decide +kernel) (by decide +kernel), ⟨by decide +kernel, by decide +kernel, by decide +kernel⟩, by decide, by decide +kernel⟩
theorem im_X1_awakeWith : Cond.instanceMethod yX1_awakeWith ∈ tbG := mg 344 (by decide +kernel) (by decide +kernel)
theorem se_X1_awakeWith : Cond.selects yX1_awakeWith.cls yX1_awakeWith yX1_awakeWith ∈ tbG := mg 345 (by decide +kernel) (by decide +kernel)
theorem mo_X1_leavingCards : MO m_X1_leavingCards 0 := ⟨mg 47 (by decide +kernel) (by decide +kernel), mg 636 (by decide +kernel) (by decide +kernel), ⟨by decide +kernel, by decide +kernel, by decide +kernel⟩, by decide, by decide +kernel⟩
theorem im_X1_leavingCards : Cond.instanceMethod yX1_leavingCards ∈ tbG := mg 634 (by decide +kernel) (by decide +kernel)
theorem se_X1_leavingCards : Cond.selects yX1_leavingCards.cls yX1_leavingCards yX1_leavingCards ∈ tbG := mg 635 (by decide +kernel) (by decide +kernel)
theorem mo_X1_insert : MO m_X1_insert 1 := ⟨mg 47 (by decide +kernel) (by decide +kernel), mg 289 (by decide +kernel) (by decide +kernel), ⟨by decide +kernel, by decide +kernel, by decide +kernel⟩, by decide, by decide +kernel⟩
theorem im_X1_insert : Cond.instanceMethod yX1_insert ∈ tbG := mg 287 (by decide +kernel) (by decide +kernel)
theorem se_X1_insert : Cond.selects yX1_insert.cls yX1_insert yX1_insert ∈ tbG := mg 288 (by decide +kernel) (by decide +kernel)
theorem mo_X1_removeAt : MO m_X1_removeAt 1 := ⟨mg 47 (by decide +kernel) (by decide +kernel), mg 318 (by decide +kernel) (by decide +kernel), ⟨by decide +kernel, by decide +kernel, by decide +kernel⟩, by decide, by decide +kernel⟩
theorem im_X1_removeAt : Cond.instanceMethod yX1_removeAt ∈ tbG := mg 316 (by decide +kernel) (by decide +kernel)
theorem se_X1_removeAt : Cond.selects yX1_removeAt.cls yX1_removeAt yX1_removeAt ∈ tbG := mg 317 (by decide +kernel) (by decide +kernel)
theorem mo_X1_moveCard : MO m_X1_moveCard 2 := ⟨mg 47 (by decide +kernel) (by decide +kernel), mg 293 (by decide +kernel) (by decide +kernel), ⟨by decide +kernel, by decide +kernel, by decide +kernel⟩, by decide, by decide +kernel⟩
theorem im_X1_moveCard : Cond.instanceMethod yX1_moveCard ∈ tbG := mg 292 (by decide +kernel) (by decide +kernel)
theorem se_X1_moveCard : Cond.selects yX1_moveCard.cls yX1_moveCard yX1_moveCard ∈ tbG := mg 0 (by decide +kernel) (by decide +kernel)
theorem mo_X1_sleepAt : MO m_X1_sleepAt 1 := ⟨mg 47 (by decide +kernel) (by decide +kernel), mg 338 (by decide +kernel) (by decide +kernel), ⟨by decide +kernel, by decide +kernel, by decide +kernel⟩, by decide, by decide +kernel⟩
theorem im_X1_sleepAt : Cond.instanceMethod yX1_sleepAt ∈ tbG := mg 336 (by decide +kernel) (by decide +kernel)
theorem se_X1_sleepAt : Cond.selects yX1_sleepAt.cls yX1_sleepAt yX1_sleepAt ∈ tbG := mg 337 (by decide +kernel) (by decide +kernel)
theorem mo_X1_wakeEach : MO m_X1_wakeEach 0 := ⟨mg 47 (by decide +kernel) (by decide +kernel), mg 361 (by decide +kernel) (by decide +kernel), ⟨by decide +kernel, by decide +kernel, by decide +kernel⟩, by decide, by decide +kernel⟩
theorem im_X1_wakeEach : Cond.instanceMethod yX1_wakeEach ∈ tbG := mg 359 (by decide +kernel) (by decide +kernel)
theorem se_X1_wakeEach : Cond.selects yX1_wakeEach.cls yX1_wakeEach yX1_wakeEach ∈ tbG := mg 360 (by decide +kernel) (by decide +kernel)
theorem mo_X1_leaveAt : MO m_X1_leaveAt 2 := ⟨mg 47 (by decide +kernel) (by decide +kernel), mg 377 (by decide +kernel) (by decide +kernel), ⟨by decide +kernel, by decide +kernel, by decide +kernel⟩, by decide, by decide +kernel⟩
theorem im_X1_leaveAt : Cond.instanceMethod yX1_leaveAt ∈ tbG := mg 375 (by decide +kernel) (by decide +kernel)
theorem se_X1_leaveAt : Cond.selects yX1_leaveAt.cls yX1_leaveAt yX1_leaveAt ∈ tbG := mg 376 (by decide +kernel) (by decide +kernel)
theorem mo_X1_tellAt : MO m_X1_tellAt 1 := ⟨mg 47 (by decide +kernel) (by decide +kernel), mg 451 (by decide +kernel) (by decide +kernel), ⟨by decide +kernel, by decide +kernel, by decide +kernel⟩, by decide, by decide +kernel⟩
theorem im_X1_tellAt : Cond.instanceMethod yX1_tellAt ∈ tbG := mg 449 (by decide +kernel) (by decide +kernel)
theorem se_X1_tellAt : Cond.selects yX1_tellAt.cls yX1_tellAt yX1_tellAt ∈ tbG := mg 450 (by decide +kernel) (by decide +kernel)
theorem mo_X1_slotAt : MO m_X1_slotAt 2 := ⟨mg 47 (by decide +kernel) (by decide +kernel), mg 498 (by decide +kernel) (by decide +kernel), ⟨by decide +kernel, by decide +kernel, by decide +kernel⟩, by decide, by decide +kernel⟩
theorem im_X1_slotAt : Cond.instanceMethod yX1_slotAt ∈ tbG := mg 496 (by decide +kernel) (by decide +kernel)
theorem se_X1_slotAt : Cond.selects yX1_slotAt.cls yX1_slotAt yX1_slotAt ∈ tbG := mg 497 (by decide +kernel) (by decide +kernel)
theorem mo_X1_letAnswer : MO m_X1_letAnswer 2 := ⟨mg 47 (by decide +kernel) (by decide +kernel), mg 424 (by decide +kernel) (by decide +kernel), ⟨by decide +kernel, by decide +kernel, by decide +kernel⟩, by decide, by decide +kernel⟩
theorem im_X1_letAnswer : Cond.instanceMethod yX1_letAnswer ∈ tbG := mg 422 (by decide +kernel) (by decide +kernel)
theorem se_X1_letAnswer : Cond.selects yX1_letAnswer.cls yX1_letAnswer yX1_letAnswer ∈ tbG := mg 423 (by decide +kernel) (by decide +kernel)
theorem mo_X1_letAnswerIn : MO m_X1_letAnswerIn 1 := ⟨mg 47 (by decide +kernel) (by decide +kernel), mg 502 (by decide +kernel) (by decide +kernel), ⟨by decide +kernel, by decide +kernel, by decide +kernel⟩, by decide, by decide +kernel⟩
theorem im_X1_letAnswerIn : Cond.instanceMethod yX1_letAnswerIn ∈ tbG := mg 500 (by decide +kernel) (by decide +kernel)
theorem se_X1_letAnswerIn : Cond.selects yX1_letAnswerIn.cls yX1_letAnswerIn yX1_letAnswerIn ∈ tbG := mg 501 (by decide +kernel) (by decide +kernel)
theorem mo_X1_firstAnswering : MO m_X1_firstAnswering 0 := ⟨mg 47 (by decide +kernel) (by decide +kernel), mg 432 (by decide +kernel) (by decide +kernel), ⟨by decide +kernel, by decide +kernel, by decide +kernel⟩, by decide, by decide +kernel⟩
theorem im_X1_firstAnswering : Cond.instanceMethod yX1_firstAnswering ∈ tbG := mg 430 (by decide +kernel) (by decide +kernel)
theorem se_X1_firstAnswering : Cond.selects yX1_firstAnswering.cls yX1_firstAnswering yX1_firstAnswering ∈ tbG := mg 431 (by decide +kernel) (by decide +kernel)
theorem mo_X1_differencesFrom : MO m_X1_differencesFrom 1 := ⟨mg 47 (by decide +kernel) (by decide +kernel), mg 440 (by decide +kernel) (by decide +kernel), ⟨by decide +kernel, by decide +kernel, by decide +kernel⟩, by decide, by decide +kernel⟩
theorem im_X1_differencesFrom : Cond.instanceMethod yX1_differencesFrom ∈ tbG := mg 438 (by decide +kernel) (by decide +kernel)
theorem se_X1_differencesFrom : Cond.selects yX1_differencesFrom.cls yX1_differencesFrom yX1_differencesFrom ∈ tbG := mg 439 (by decide +kernel) (by decide +kernel)
theorem mo_X1_passAsk : MO m_X1_passAsk 0 := ⟨mg 47 (by decide +kernel) (by decide +kernel), mg 458 (by decide +kernel) (by decide +kernel), ⟨by decide +kernel, by decide +kernel, by decide +kernel⟩, by decide, by decide +kernel⟩
theorem im_X1_passAsk : Cond.instanceMethod yX1_passAsk ∈ tbG := mg 456 (by decide +kernel) (by decide +kernel)
theorem se_X1_passAsk : Cond.selects yX1_passAsk.cls yX1_passAsk yX1_passAsk ∈ tbG := mg 457 (by decide +kernel) (by decide +kernel)
theorem mo_X2_init : MO m_X2_init 0 := ⟨mg 46 (by decide +kernel) (by decide +kernel), mg 67 (by decide +kernel) (by decide +kernel), ⟨by decide +kernel, by decide +kernel, by decide +kernel⟩, by decide, by decide +kernel⟩
theorem im_X2_init : Cond.instanceMethod yX2_init ∈ tbG := mg 66 (by decide +kernel) (by decide +kernel)
theorem mo_X2_copyFrom : MO m_X2_copyFrom 1 := ⟨mg 46 (by decide +kernel) (by decide +kernel), mg 257 (by decide +kernel) (by decide +kernel), ⟨by decide +kernel, by decide +kernel, by decide +kernel⟩, by decide, by decide +kernel⟩
theorem im_X2_copyFrom : Cond.instanceMethod yX2_copyFrom ∈ tbG := mg 255 (by decide +kernel) (by decide +kernel)
theorem se_X2_copyFrom : Cond.selects yX2_copyFrom.cls yX2_copyFrom yX2_copyFrom ∈ tbG := mg 256 (by decide +kernel) (by decide +kernel)
theorem mo_X2_putCard : MO m_X2_putCard 1 := ⟨mg 46 (by decide +kernel) (by decide +kernel), mg 277 (by decide +kernel) (by decide +kernel), ⟨by decide +kernel, by decide +kernel, by decide +kernel⟩, by decide, by decide +kernel⟩
theorem im_X2_putCard : Cond.instanceMethod yX2_putCard ∈ tbG := mg 275 (by decide +kernel) (by decide +kernel)
theorem se_X2_putCard : Cond.selects yX2_putCard.cls yX2_putCard yX2_putCard ∈ tbG := mg 276 (by decide +kernel) (by decide +kernel)
theorem mo_X2_takeCard : MO m_X2_takeCard 1 := ⟨mg 46 (by decide +kernel) (by decide +kernel), mg 314 (by decide +kernel) (by decide +kernel), ⟨by decide +kernel, by decide +kernel, by decide +kernel⟩, by decide, by decide +kernel⟩
theorem im_X2_takeCard : Cond.instanceMethod yX2_takeCard ∈ tbG := mg 312 (by decide +kernel) (by decide +kernel)
theorem se_X2_takeCard : Cond.selects yX2_takeCard.cls yX2_takeCard yX2_takeCard ∈ tbG := mg 313 (by decide +kernel) (by decide +kernel)
theorem mo_X2_sleepCard : MO m_X2_sleepCard 1 := ⟨mg 46 (by decide +kernel) (by decide +kernel), mg 330 (by decide +kernel) (by decide +kernel), ⟨by decide +kernel, by decide +kernel, by decide +kernel⟩, by decide, by decide +kernel⟩
theorem im_X2_sleepCard : Cond.instanceMethod yX2_sleepCard ∈ tbG := mg 328 (by decide +kernel) (by decide +kernel)
theorem se_X2_sleepCard : Cond.selects yX2_sleepCard.cls yX2_sleepCard yX2_sleepCard ∈ tbG := mg 329 (by decide +kernel) (by decide +kernel)
theorem mo_X2_wakeCards : MO m_X2_wakeCards 0 := ⟨mg 46 (by decide +kernel) (by decide +kernel), mg 357 (by decide +kernel) (by decide +kernel), ⟨by decide +kernel, by decide +kernel, by decide +kernel⟩, by decide, by decide +kernel⟩
theorem im_X2_wakeCards : Cond.instanceMethod yX2_wakeCards ∈ tbG := mg 355 (by decide +kernel) (by decide +kernel)
theorem se_X2_wakeCards : Cond.selects yX2_wakeCards.cls yX2_wakeCards yX2_wakeCards ∈ tbG := mg 356 (by decide +kernel) (by decide +kernel)
theorem mo_X2_leaveBehind : MO m_X2_leaveBehind 2 := ⟨mg 46 (by decide +kernel) (by decide +kernel), mg 369 (by decide +kernel) (by decide +kernel), ⟨by decide +kernel, by decide +kernel, by decide +kernel⟩, by decide, by decide +kernel⟩
theorem im_X2_leaveBehind : Cond.instanceMethod yX2_leaveBehind ∈ tbG := mg 367 (by decide +kernel) (by decide +kernel)
theorem se_X2_leaveBehind : Cond.selects yX2_leaveBehind.cls yX2_leaveBehind yX2_leaveBehind ∈ tbG := mg 368 (by decide +kernel) (by decide +kernel)
theorem mo_X2_setTo : MO m_X2_setTo 2 := ⟨mg 46 (by decide +kernel) (by decide +kernel), mg 385 (by decide +kernel) (by decide +kernel), ⟨by decide +kernel, by decide +kernel, by decide +kernel⟩, by decide, by decide +kernel⟩
theorem im_X2_setTo : Cond.instanceMethod yX2_setTo ∈ tbG := mg 383 (by decide +kernel) (by decide +kernel)
theorem se_X2_setTo : Cond.selects yX2_setTo.cls yX2_setTo yX2_setTo ∈ tbG := mg 384 (by decide +kernel) (by decide +kernel)
theorem mo_X2_valueOf : MO m_X2_valueOf 1 := ⟨mg 46 (by decide +kernel) (by decide +kernel), mg 640 (by decide +kernel) (by decide +kernel), ⟨by decide +kernel, by decide +kernel, by decide +kernel⟩, by decide, by decide +kernel⟩
theorem im_X2_valueOf : Cond.instanceMethod yX2_valueOf ∈ tbG := mg 638 (by decide +kernel) (by decide +kernel)
theorem se_X2_valueOf : Cond.selects yX2_valueOf.cls yX2_valueOf yX2_valueOf ∈ tbG := mg 639 (by decide +kernel) (by decide +kernel)
theorem mo_X2_shuffleTo : MO m_X2_shuffleTo 1 := ⟨mg 46 (by decide +kernel) (by decide +kernel), mg 393 (by decide +kernel) (by decide +kernel), ⟨by decide +kernel, by decide +kernel, by decide +kernel⟩, by decide, by decide +kernel⟩
theorem im_X2_shuffleTo : Cond.instanceMethod yX2_shuffleTo ∈ tbG := mg 391 (by decide +kernel) (by decide +kernel)
theorem se_X2_shuffleTo : Cond.selects yX2_shuffleTo.cls yX2_shuffleTo yX2_shuffleTo ∈ tbG := mg 392 (by decide +kernel) (by decide +kernel)
theorem mo_X2_forgetTold : MO m_X2_forgetTold 0 := ⟨mg 46 (by decide +kernel) (by decide +kernel), mg 401 (by decide +kernel) (by decide +kernel), ⟨by decide +kernel, by decide +kernel, by decide +kernel⟩, by decide, by decide +kernel⟩
theorem im_X2_forgetTold : Cond.instanceMethod yX2_forgetTold ∈ tbG := mg 399 (by decide +kernel) (by decide +kernel)
theorem se_X2_forgetTold : Cond.selects yX2_forgetTold.cls yX2_forgetTold yX2_forgetTold ∈ tbG := mg 400 (by decide +kernel) (by decide +kernel)
theorem mo_X2_askFor : MO m_X2_askFor 2 := ⟨mg 46 (by decide +kernel) (by decide +kernel), mg 420 (by decide +kernel) (by decide +kernel), ⟨by decide +kernel, by decide +kernel, by decide +kernel⟩, by decide, by decide +kernel⟩
theorem im_X2_askFor : Cond.instanceMethod yX2_askFor ∈ tbG := mg 418 (by decide +kernel) (by decide +kernel)
theorem se_X2_askFor : Cond.selects yX2_askFor.cls yX2_askFor yX2_askFor ∈ tbG := mg 419 (by decide +kernel) (by decide +kernel)
theorem mo_X2_hear : MO m_X2_hear 0 := ⟨mg 46 (by decide +kernel) (by decide +kernel), mg 428 (by decide +kernel) (by decide +kernel), ⟨by decide +kernel, by decide +kernel, by decide +kernel⟩, by decide, by decide +kernel⟩
theorem im_X2_hear : Cond.instanceMethod yX2_hear ∈ tbG := mg 427 (by decide +kernel) (by decide +kernel)
theorem se_X2_hear : Cond.selects yX2_hear.cls yX2_hear yX2_hear ∈ tbG := mg 4 (by decide +kernel) (by decide +kernel)
theorem mo_X2_makeWalk : MO m_X2_makeWalk 1 := ⟨mg 46 (by decide +kernel) (by decide +kernel), mg 466 (by decide +kernel) (by decide +kernel), ⟨by decide +kernel, by decide +kernel, by decide +kernel⟩, by decide, by decide +kernel⟩
theorem im_X2_makeWalk : Cond.instanceMethod yX2_makeWalk ∈ tbG := mg 464 (by decide +kernel) (by decide +kernel)
theorem se_X2_makeWalk : Cond.selects yX2_makeWalk.cls yX2_makeWalk yX2_makeWalk ∈ tbG := mg 465 (by decide +kernel) (by decide +kernel)
theorem mo_X2_walkFrom : MO m_X2_walkFrom 4 := ⟨mg 46 (by decide +kernel) (by decide +kernel), mg 469 (by decide +kernel) (by decide +kernel), ⟨by decide +kernel, by decide +kernel, by decide +kernel⟩, by decide, by decide +kernel⟩
theorem sm_X2_walkFrom : Cond.static yX2_walkFrom ∈ tbG := mg 468 (by decide +kernel) (by decide +kernel)
theorem mo_X2_makeFrame : MO m_X2_makeFrame 1 := ⟨mg 46 (by decide +kernel) (by decide +kernel), mg 480 (by decide +kernel) (by decide +kernel), ⟨by decide +kernel, by decide +kernel, by decide +kernel⟩, by decide, by decide +kernel⟩
theorem im_X2_makeFrame : Cond.instanceMethod yX2_makeFrame ∈ tbG := mg 478 (by decide +kernel) (by decide +kernel)
theorem se_X2_makeFrame : Cond.selects yX2_makeFrame.cls yX2_makeFrame yX2_makeFrame ∈ tbG := mg 479 (by decide +kernel) (by decide +kernel)
theorem mo_X2_drawSlots : MO m_X2_drawSlots 1 := ⟨mg 46 (by decide +kernel) (by decide +kernel), mg 487 (by decide +kernel) (by decide +kernel), ⟨by decide +kernel, by decide +kernel, by decide +kernel⟩, by decide, by decide +kernel⟩
theorem im_X2_drawSlots : Cond.instanceMethod yX2_drawSlots ∈ tbG := mg 486 (by decide +kernel) (by decide +kernel)
theorem se_X2_drawSlots : Cond.selects yX2_drawSlots.cls yX2_drawSlots yX2_drawSlots ∈ tbG := mg 5 (by decide +kernel) (by decide +kernel)
theorem mo_X2_draw : MO m_X2_draw 1 := ⟨mg 46 (by decide +kernel) (by decide +kernel), mg 491 (by decide +kernel) (by decide +kernel), ⟨by decide +kernel, by decide +kernel, by decide +kernel⟩, by decide, by decide +kernel⟩
theorem im_X2_draw : Cond.instanceMethod yX2_draw ∈ tbG := mg 490 (by decide +kernel) (by decide +kernel)
theorem se_X2_draw : Cond.selects yX2_draw.cls yX2_draw yX2_draw ∈ tbG := mg 6 (by decide +kernel) (by decide +kernel)
theorem mo_X2_makeRounds : MO m_X2_makeRounds 1 := ⟨mg 46 (by decide +kernel) (by decide +kernel), mg 510 (by decide +kernel) (by decide +kernel), ⟨by decide +kernel, by decide +kernel, by decide +kernel⟩, by decide, by decide +kernel⟩
theorem im_X2_makeRounds : Cond.instanceMethod yX2_makeRounds ∈ tbG := mg 508 (by decide +kernel) (by decide +kernel)
theorem se_X2_makeRounds : Cond.selects yX2_makeRounds.cls yX2_makeRounds yX2_makeRounds ∈ tbG := mg 509 (by decide +kernel) (by decide +kernel)
theorem mo_X2_nextSize : MO m_X2_nextSize 3 := ⟨mg 46 (by decide +kernel) (by decide +kernel), mg 515 (by decide +kernel) (by decide +kernel), ⟨by decide +kernel, by decide +kernel, by decide +kernel⟩, by decide, by decide +kernel⟩
theorem im_X2_nextSize : Cond.instanceMethod yX2_nextSize ∈ tbG := mg 514 (by decide +kernel) (by decide +kernel)
theorem se_X2_nextSize : Cond.selects yX2_nextSize.cls yX2_nextSize yX2_nextSize ∈ tbG := mg 7 (by decide +kernel) (by decide +kernel)
theorem mo_X2_carryOut : MO m_X2_carryOut 2 := ⟨mg 46 (by decide +kernel) (by decide +kernel), mg 574 (by decide +kernel) (by decide +kernel), ⟨by decide +kernel, by decide +kernel, by decide +kernel⟩, by decide, by decide +kernel⟩
theorem im_X2_carryOut : Cond.instanceMethod yX2_carryOut ∈ tbG := mg 572 (by decide +kernel) (by decide +kernel)
theorem se_X2_carryOut : Cond.selects yX2_carryOut.cls yX2_carryOut yX2_carryOut ∈ tbG := mg 573 (by decide +kernel) (by decide +kernel)
theorem mo_X3_init : MO m_X3_init 0 := ⟨mg 49 (by decide +kernel) (by decide +kernel), mg 116 (by decide +kernel) (by decide +kernel), ⟨by decide +kernel, by decide +kernel, by decide +kernel⟩, by decide, by decide +kernel⟩
theorem im_X3_init : Cond.instanceMethod yX3_init ∈ tbG := mg 115 (by decide +kernel) (by decide +kernel)
theorem mo_X3_copyFrom : MO m_X3_copyFrom 1 := ⟨mg 49 (by decide +kernel) (by decide +kernel), mg 272 (by decide +kernel) (by decide +kernel), ⟨by decide +kernel, by decide +kernel, by decide +kernel⟩, by decide, by decide +kernel⟩
theorem im_X3_copyFrom : Cond.instanceMethod yX3_copyFrom ∈ tbG := mg 270 (by decide +kernel) (by decide +kernel)
theorem se_X3_copyFrom : Cond.selects yX3_copyFrom.cls yX3_copyFrom yX3_copyFrom ∈ tbG := mg 271 (by decide +kernel) (by decide +kernel)
theorem mo_X3_numberOf : MO m_X3_numberOf 1 := ⟨mg 49 (by decide +kernel) (by decide +kernel), mg 652 (by decide +kernel) (by decide +kernel), ⟨by decide +kernel, by decide +kernel, by decide +kernel⟩, by decide, by decide +kernel⟩
theorem im_X3_numberOf : Cond.instanceMethod yX3_numberOf ∈ tbG := mg 650 (by decide +kernel) (by decide +kernel)
theorem se_X3_numberOf : Cond.selects yX3_numberOf.cls yX3_numberOf yX3_numberOf ∈ tbG := mg 651 (by decide +kernel) (by decide +kernel)
theorem mo_X4_init : MO m_X4_init 0 := ⟨mg 51 (by decide +kernel) (by decide +kernel), mg 203 (by decide +kernel) (by decide +kernel), ⟨by decide +kernel, by decide +kernel, by decide +kernel⟩, by decide, by decide +kernel⟩
theorem im_X4_init : Cond.instanceMethod yX4_init ∈ tbG := mg 202 (by decide +kernel) (by decide +kernel)
theorem mo_X4_length : MO m_X4_length 0 := ⟨mg 51 (by decide +kernel) (by decide +kernel), mg 648 (by decide +kernel) (by decide +kernel), ⟨by decide +kernel, by decide +kernel, by decide +kernel⟩, by decide, by decide +kernel⟩
theorem im_X4_length : Cond.instanceMethod yX4_length ∈ tbG := mg 646 (by decide +kernel) (by decide +kernel)
theorem se_X4_length : Cond.selects yX4_length.cls yX4_length yX4_length ∈ tbG := mg 647 (by decide +kernel) (by decide +kernel)
theorem mo_X4_append : MO m_X4_append 1 := ⟨mg 51 (by decide +kernel) (by decide +kernel), mg 526 (by decide +kernel) (by decide +kernel), ⟨by decide +kernel, by decide +kernel, by decide +kernel⟩, by decide, by decide +kernel⟩
theorem im_X4_append : Cond.instanceMethod yX4_append ∈ tbG := mg 524 (by decide +kernel) (by decide +kernel)
theorem se_X4_append : Cond.selects yX4_append.cls yX4_append yX4_append ∈ tbG := mg 525 (by decide +kernel) (by decide +kernel)
theorem mo_X4_empty : MO m_X4_empty 0 := ⟨mg 51 (by decide +kernel) (by decide +kernel), mg 534 (by decide +kernel) (by decide +kernel), ⟨by decide +kernel, by decide +kernel, by decide +kernel⟩, by decide, by decide +kernel⟩
theorem im_X4_empty : Cond.instanceMethod yX4_empty ∈ tbG := mg 532 (by decide +kernel) (by decide +kernel)
theorem se_X4_empty : Cond.selects yX4_empty.cls yX4_empty yX4_empty ∈ tbG := mg 533 (by decide +kernel) (by decide +kernel)
theorem mo_X4_orders : MO m_X4_orders 0 := ⟨mg 51 (by decide +kernel) (by decide +kernel), mg 562 (by decide +kernel) (by decide +kernel), ⟨by decide +kernel, by decide +kernel, by decide +kernel⟩, by decide, by decide +kernel⟩
theorem im_X4_orders : Cond.instanceMethod yX4_orders ∈ tbG := mg 560 (by decide +kernel) (by decide +kernel)
theorem se_X4_orders : Cond.selects yX4_orders.cls yX4_orders yX4_orders ∈ tbG := mg 561 (by decide +kernel) (by decide +kernel)
theorem mo_X4_kindAt : MO m_X4_kindAt 1 := ⟨mg 51 (by decide +kernel) (by decide +kernel), mg 566 (by decide +kernel) (by decide +kernel), ⟨by decide +kernel, by decide +kernel, by decide +kernel⟩, by decide, by decide +kernel⟩
theorem im_X4_kindAt : Cond.instanceMethod yX4_kindAt ∈ tbG := mg 564 (by decide +kernel) (by decide +kernel)
theorem se_X4_kindAt : Cond.selects yX4_kindAt.cls yX4_kindAt yX4_kindAt ∈ tbG := mg 565 (by decide +kernel) (by decide +kernel)
theorem mo_X4_numberAt : MO m_X4_numberAt 1 := ⟨mg 51 (by decide +kernel) (by decide +kernel), mg 570 (by decide +kernel) (by decide +kernel), ⟨by decide +kernel, by decide +kernel, by decide +kernel⟩, by decide, by decide +kernel⟩
theorem im_X4_numberAt : Cond.instanceMethod yX4_numberAt ∈ tbG := mg 568 (by decide +kernel) (by decide +kernel)
theorem se_X4_numberAt : Cond.selects yX4_numberAt.cls yX4_numberAt yX4_numberAt ∈ tbG := mg 569 (by decide +kernel) (by decide +kernel)
theorem mo_X4_readOrders : MO m_X4_readOrders 0 := ⟨mg 51 (by decide +kernel) (by decide +kernel), mg 542 (by decide +kernel) (by decide +kernel), ⟨by decide +kernel, by decide +kernel, by decide +kernel⟩, by decide, by decide +kernel⟩
theorem im_X4_readOrders : Cond.instanceMethod yX4_readOrders ∈ tbG := mg 540 (by decide +kernel) (by decide +kernel)
theorem se_X4_readOrders : Cond.selects yX4_readOrders.cls yX4_readOrders yX4_readOrders ∈ tbG := mg 541 (by decide +kernel) (by decide +kernel)
theorem mo_X4_readOrder : MO m_X4_readOrder 0 := ⟨mg 51 (by decide +kernel) (by decide +kernel), mg 546 (by decide +kernel) (by decide +kernel), ⟨by decide +kernel, by decide +kernel, by decide +kernel⟩, by decide, by decide +kernel⟩
theorem im_X4_readOrder : Cond.instanceMethod yX4_readOrder ∈ tbG := mg 545 (by decide +kernel) (by decide +kernel)
theorem se_X4_readOrder : Cond.selects yX4_readOrder.cls yX4_readOrder yX4_readOrder ∈ tbG := mg 8 (by decide +kernel) (by decide +kernel)
theorem mo_X4_readNumber : MO m_X4_readNumber 2 := ⟨mg 51 (by decide +kernel) (by decide +kernel), mg 554 (by decide +kernel) (by decide +kernel), ⟨by decide +kernel, by decide +kernel, by decide +kernel⟩, by decide, by decide +kernel⟩
theorem im_X4_readNumber : Cond.instanceMethod yX4_readNumber ∈ tbG := mg 553 (by decide +kernel) (by decide +kernel)
theorem se_X4_readNumber : Cond.selects yX4_readNumber.cls yX4_readNumber yX4_readNumber ∈ tbG := mg 10 (by decide +kernel) (by decide +kernel)
theorem mo_X4_digitAt : MO m_X4_digitAt 1 := ⟨mg 51 (by decide +kernel) (by decide +kernel), mg 558 (by decide +kernel) (by decide +kernel), ⟨by decide +kernel, by decide +kernel, by decide +kernel⟩, by decide, by decide +kernel⟩
theorem im_X4_digitAt : Cond.instanceMethod yX4_digitAt ∈ tbG := mg 557 (by decide +kernel) (by decide +kernel)
theorem se_X4_digitAt : Cond.selects yX4_digitAt.cls yX4_digitAt yX4_digitAt ∈ tbG := mg 11 (by decide +kernel) (by decide +kernel)
theorem mo_X4_characterAt : MO m_X4_characterAt 1 := ⟨mg 51 (by decide +kernel) (by decide +kernel), mg 550 (by decide +kernel) (by decide +kernel), ⟨by decide +kernel, by decide +kernel, by decide +kernel⟩, by decide, by decide +kernel⟩
theorem im_X4_characterAt : Cond.instanceMethod yX4_characterAt ∈ tbG := mg 549 (by decide +kernel) (by decide +kernel)
theorem se_X4_characterAt : Cond.selects yX4_characterAt.cls yX4_characterAt yX4_characterAt ∈ tbG := mg 9 (by decide +kernel) (by decide +kernel)
theorem mo_X5_init : MO m_X5_init 0 := ⟨mg 48 (by decide +kernel) (by decide +kernel), mg 103 (by decide +kernel) (by decide +kernel), ⟨by decide +kernel, by decide +kernel, by decide +kernel⟩, by decide, by decide +kernel⟩
theorem im_X5_init : Cond.instanceMethod yX5_init ∈ tbG := mg 102 (by decide +kernel) (by decide +kernel)
theorem mo_X5_copyFrom : MO m_X5_copyFrom 1 := ⟨mg 48 (by decide +kernel) (by decide +kernel), mg 265 (by decide +kernel) (by decide +kernel), ⟨by decide +kernel, by decide +kernel, by decide +kernel⟩, by decide, by decide +kernel⟩
theorem im_X5_copyFrom : Cond.instanceMethod yX5_copyFrom ∈ tbG := mg 263 (by decide +kernel) (by decide +kernel)
theorem se_X5_copyFrom : Cond.selects yX5_copyFrom.cls yX5_copyFrom yX5_copyFrom ∈ tbG := mg 264 (by decide +kernel) (by decide +kernel)
theorem mo_X5_names : MO m_X5_names 0 := ⟨mg 48 (by decide +kernel) (by decide +kernel), mg 405 (by decide +kernel) (by decide +kernel), ⟨by decide +kernel, by decide +kernel, by decide +kernel⟩, by decide, by decide +kernel⟩
theorem im_X5_names : Cond.instanceMethod yX5_names ∈ tbG := mg 403 (by decide +kernel) (by decide +kernel)
theorem se_X5_names : Cond.selects yX5_names.cls yX5_names yX5_names ∈ tbG := mg 404 (by decide +kernel) (by decide +kernel)
theorem mo_X5_nameAt : MO m_X5_nameAt 1 := ⟨mg 48 (by decide +kernel) (by decide +kernel), mg 627 (by decide +kernel) (by decide +kernel), ⟨by decide +kernel, by decide +kernel, by decide +kernel⟩, by decide, by decide +kernel⟩
theorem im_X5_nameAt : Cond.instanceMethod yX5_nameAt ∈ tbG := mg 625 (by decide +kernel) (by decide +kernel)
theorem se_X5_nameAt : Cond.selects yX5_nameAt.cls yX5_nameAt yX5_nameAt ∈ tbG := mg 626 (by decide +kernel) (by decide +kernel)
theorem mo_X5_add : MO m_X5_add 1 := ⟨mg 48 (by decide +kernel) (by decide +kernel), mg 447 (by decide +kernel) (by decide +kernel), ⟨by decide +kernel, by decide +kernel, by decide +kernel⟩, by decide, by decide +kernel⟩
theorem im_X5_add : Cond.instanceMethod yX5_add ∈ tbG := mg 445 (by decide +kernel) (by decide +kernel)
theorem se_X5_add : Cond.selects yX5_add.cls yX5_add yX5_add ∈ tbG := mg 446 (by decide +kernel) (by decide +kernel)
theorem mo_X5_empty : MO m_X5_empty 0 := ⟨mg 48 (by decide +kernel) (by decide +kernel), mg 409 (by decide +kernel) (by decide +kernel), ⟨by decide +kernel, by decide +kernel, by decide +kernel⟩, by decide, by decide +kernel⟩
theorem im_X5_empty : Cond.instanceMethod yX5_empty ∈ tbG := mg 407 (by decide +kernel) (by decide +kernel)
theorem se_X5_empty : Cond.selects yX5_empty.cls yX5_empty yX5_empty ∈ tbG := mg 408 (by decide +kernel) (by decide +kernel)
theorem mo_X6_init : MO m_X6_init 0 := ⟨mg 45 (by decide +kernel) (by decide +kernel), mg 59 (by decide +kernel) (by decide +kernel), ⟨by decide +kernel, by decide +kernel, by decide +kernel⟩, by decide, by decide +kernel⟩
theorem im_X6_init : Cond.instanceMethod yX6_init ∈ tbG := mg 58 (by decide +kernel) (by decide +kernel)
theorem mo_X6_put : MO m_X6_put 1 := ⟨mg 45 (by decide +kernel) (by decide +kernel), mg 253 (by decide +kernel) (by decide +kernel), ⟨by decide +kernel, by decide +kernel, by decide +kernel⟩, by decide, by decide +kernel⟩
theorem im_X6_put : Cond.instanceMethod yX6_put ∈ tbG := mg 251 (by decide +kernel) (by decide +kernel)
theorem se_X6_put : Cond.selects yX6_put.cls yX6_put yX6_put ∈ tbG := mg 252 (by decide +kernel) (by decide +kernel)
theorem mo_X6_take : MO m_X6_take 1 := ⟨mg 45 (by decide +kernel) (by decide +kernel), mg 310 (by decide +kernel) (by decide +kernel), ⟨by decide +kernel, by decide +kernel, by decide +kernel⟩, by decide, by decide +kernel⟩
theorem im_X6_take : Cond.instanceMethod yX6_take ∈ tbG := mg 308 (by decide +kernel) (by decide +kernel)
theorem se_X6_take : Cond.selects yX6_take.cls yX6_take yX6_take ∈ tbG := mg 309 (by decide +kernel) (by decide +kernel)
theorem mo_X6_sleep : MO m_X6_sleep 1 := ⟨mg 45 (by decide +kernel) (by decide +kernel), mg 326 (by decide +kernel) (by decide +kernel), ⟨by decide +kernel, by decide +kernel, by decide +kernel⟩, by decide, by decide +kernel⟩
theorem im_X6_sleep : Cond.instanceMethod yX6_sleep ∈ tbG := mg 324 (by decide +kernel) (by decide +kernel)
theorem se_X6_sleep : Cond.selects yX6_sleep.cls yX6_sleep yX6_sleep ∈ tbG := mg 325 (by decide +kernel) (by decide +kernel)
theorem mo_X6_wakeAll : MO m_X6_wakeAll 0 := ⟨mg 45 (by decide +kernel) (by decide +kernel), mg 353 (by decide +kernel) (by decide +kernel), ⟨by decide +kernel, by decide +kernel, by decide +kernel⟩, by decide, by decide +kernel⟩
theorem im_X6_wakeAll : Cond.instanceMethod yX6_wakeAll ∈ tbG := mg 351 (by decide +kernel) (by decide +kernel)
theorem se_X6_wakeAll : Cond.selects yX6_wakeAll.cls yX6_wakeAll yX6_wakeAll ∈ tbG := mg 352 (by decide +kernel) (by decide +kernel)
theorem mo_X6_leave : MO m_X6_leave 2 := ⟨mg 45 (by decide +kernel) (by decide +kernel), mg 365 (by decide +kernel) (by decide +kernel), ⟨by decide +kernel, by decide +kernel, by decide +kernel⟩, by decide, by decide +kernel⟩
theorem im_X6_leave : Cond.instanceMethod yX6_leave ∈ tbG := mg 363 (by decide +kernel) (by decide +kernel)
theorem se_X6_leave : Cond.selects yX6_leave.cls yX6_leave yX6_leave ∈ tbG := mg 364 (by decide +kernel) (by decide +kernel)
theorem mo_X6_set : MO m_X6_set 2 := ⟨mg 45 (by decide +kernel) (by decide +kernel), mg 381 (by decide +kernel) (by decide +kernel), ⟨by decide +kernel, by decide +kernel, by decide +kernel⟩, by decide, by decide +kernel⟩
theorem im_X6_set : Cond.instanceMethod yX6_set ∈ tbG := mg 379 (by decide +kernel) (by decide +kernel)
theorem se_X6_set : Cond.selects yX6_set.cls yX6_set yX6_set ∈ tbG := mg 380 (by decide +kernel) (by decide +kernel)
theorem mo_X6_shuffle : MO m_X6_shuffle 1 := ⟨mg 45 (by decide +kernel) (by decide +kernel), mg 389 (by decide +kernel) (by decide +kernel), ⟨by decide +kernel, by decide +kernel, by decide +kernel⟩, by decide, by decide +kernel⟩
theorem im_X6_shuffle : Cond.instanceMethod yX6_shuffle ∈ tbG := mg 387 (by decide +kernel) (by decide +kernel)
theorem se_X6_shuffle : Cond.selects yX6_shuffle.cls yX6_shuffle yX6_shuffle ∈ tbG := mg 388 (by decide +kernel) (by decide +kernel)
theorem mo_X6_forget : MO m_X6_forget 0 := ⟨mg 45 (by decide +kernel) (by decide +kernel), mg 397 (by decide +kernel) (by decide +kernel), ⟨by decide +kernel, by decide +kernel, by decide +kernel⟩, by decide, by decide +kernel⟩
theorem im_X6_forget : Cond.instanceMethod yX6_forget ∈ tbG := mg 395 (by decide +kernel) (by decide +kernel)
theorem se_X6_forget : Cond.selects yX6_forget.cls yX6_forget yX6_forget ∈ tbG := mg 396 (by decide +kernel) (by decide +kernel)
theorem mo_X6_ask : MO m_X6_ask 2 := ⟨mg 45 (by decide +kernel) (by decide +kernel), mg 413 (by decide +kernel) (by decide +kernel), ⟨by decide +kernel, by decide +kernel, by decide +kernel⟩, by decide, by decide +kernel⟩
theorem im_X6_ask : Cond.instanceMethod yX6_ask ∈ tbG := mg 411 (by decide +kernel) (by decide +kernel)
theorem se_X6_ask : Cond.selects yX6_ask.cls yX6_ask yX6_ask ∈ tbG := mg 412 (by decide +kernel) (by decide +kernel)
theorem mo_X6_walk : MO m_X6_walk 1 := ⟨mg 45 (by decide +kernel) (by decide +kernel), mg 462 (by decide +kernel) (by decide +kernel), ⟨by decide +kernel, by decide +kernel, by decide +kernel⟩, by decide, by decide +kernel⟩
theorem im_X6_walk : Cond.instanceMethod yX6_walk ∈ tbG := mg 460 (by decide +kernel) (by decide +kernel)
theorem se_X6_walk : Cond.selects yX6_walk.cls yX6_walk yX6_walk ∈ tbG := mg 461 (by decide +kernel) (by decide +kernel)
theorem mo_X6_frame : MO m_X6_frame 1 := ⟨mg 45 (by decide +kernel) (by decide +kernel), mg 476 (by decide +kernel) (by decide +kernel), ⟨by decide +kernel, by decide +kernel, by decide +kernel⟩, by decide, by decide +kernel⟩
theorem im_X6_frame : Cond.instanceMethod yX6_frame ∈ tbG := mg 474 (by decide +kernel) (by decide +kernel)
theorem se_X6_frame : Cond.selects yX6_frame.cls yX6_frame yX6_frame ∈ tbG := mg 475 (by decide +kernel) (by decide +kernel)
theorem mo_X6_rounds : MO m_X6_rounds 1 := ⟨mg 45 (by decide +kernel) (by decide +kernel), mg 506 (by decide +kernel) (by decide +kernel), ⟨by decide +kernel, by decide +kernel, by decide +kernel⟩, by decide, by decide +kernel⟩
theorem im_X6_rounds : Cond.instanceMethod yX6_rounds ∈ tbG := mg 504 (by decide +kernel) (by decide +kernel)
theorem se_X6_rounds : Cond.selects yX6_rounds.cls yX6_rounds yX6_rounds ∈ tbG := mg 505 (by decide +kernel) (by decide +kernel)
theorem mo_X6_type : MO m_X6_type 1 := ⟨mg 45 (by decide +kernel) (by decide +kernel), mg 522 (by decide +kernel) (by decide +kernel), ⟨by decide +kernel, by decide +kernel, by decide +kernel⟩, by decide, by decide +kernel⟩
theorem im_X6_type : Cond.instanceMethod yX6_type ∈ tbG := mg 520 (by decide +kernel) (by decide +kernel)
theorem se_X6_type : Cond.selects yX6_type.cls yX6_type yX6_type ∈ tbG := mg 521 (by decide +kernel) (by decide +kernel)
theorem mo_X6_clearText : MO m_X6_clearText 0 := ⟨mg 45 (by decide +kernel) (by decide +kernel), mg 530 (by decide +kernel) (by decide +kernel), ⟨by decide +kernel, by decide +kernel, by decide +kernel⟩, by decide, by decide +kernel⟩
theorem im_X6_clearText : Cond.instanceMethod yX6_clearText ∈ tbG := mg 528 (by decide +kernel) (by decide +kernel)
theorem se_X6_clearText : Cond.selects yX6_clearText.cls yX6_clearText yX6_clearText ∈ tbG := mg 529 (by decide +kernel) (by decide +kernel)
theorem mo_X6_perform : MO m_X6_perform 0 := ⟨mg 45 (by decide +kernel) (by decide +kernel), mg 538 (by decide +kernel) (by decide +kernel), ⟨by decide +kernel, by decide +kernel, by decide +kernel⟩, by decide, by decide +kernel⟩
theorem im_X6_perform : Cond.instanceMethod yX6_perform ∈ tbG := mg 536 (by decide +kernel) (by decide +kernel)
theorem se_X6_perform : Cond.selects yX6_perform.cls yX6_perform yX6_perform ∈ tbG := mg 537 (by decide +kernel) (by decide +kernel)
theorem mo_X6_undo : MO m_X6_undo 0 := ⟨mg 45 (by decide +kernel) (by decide +kernel), mg 583 (by decide +kernel) (by decide +kernel), ⟨by decide +kernel, by decide +kernel, by decide +kernel⟩, by decide, by decide +kernel⟩
theorem im_X6_undo : Cond.instanceMethod yX6_undo ∈ tbG := mg 581 (by decide +kernel) (by decide +kernel)
theorem se_X6_undo : Cond.selects yX6_undo.cls yX6_undo yX6_undo ∈ tbG := mg 582 (by decide +kernel) (by decide +kernel)
theorem mo_X6_keep : MO m_X6_keep 0 := ⟨mg 45 (by decide +kernel) (by decide +kernel), mg 591 (by decide +kernel) (by decide +kernel), ⟨by decide +kernel, by decide +kernel, by decide +kernel⟩, by decide, by decide +kernel⟩
theorem im_X6_keep : Cond.instanceMethod yX6_keep ∈ tbG := mg 589 (by decide +kernel) (by decide +kernel)
theorem se_X6_keep : Cond.selects yX6_keep.cls yX6_keep yX6_keep ∈ tbG := mg 590 (by decide +kernel) (by decide +kernel)
theorem mo_X6_restore : MO m_X6_restore 0 := ⟨mg 45 (by decide +kernel) (by decide +kernel), mg 596 (by decide +kernel) (by decide +kernel), ⟨by decide +kernel, by decide +kernel, by decide +kernel⟩, by decide, by decide +kernel⟩
theorem im_X6_restore : Cond.instanceMethod yX6_restore ∈ tbG := mg 594 (by decide +kernel) (by decide +kernel)
theorem se_X6_restore : Cond.selects yX6_restore.cls yX6_restore yX6_restore ∈ tbG := mg 595 (by decide +kernel) (by decide +kernel)
theorem mo_X6_card : MO m_X6_card 1 := ⟨mg 45 (by decide +kernel) (by decide +kernel), mg 600 (by decide +kernel) (by decide +kernel), ⟨by decide +kernel, by decide +kernel, by decide +kernel⟩, by decide, by decide +kernel⟩
theorem im_X6_card : Cond.instanceMethod yX6_card ∈ tbG := mg 598 (by decide +kernel) (by decide +kernel)
theorem se_X6_card : Cond.selects yX6_card.cls yX6_card yX6_card ∈ tbG := mg 599 (by decide +kernel) (by decide +kernel)
theorem mo_X6_ofCard : MO m_X6_ofCard 2 := ⟨mg 45 (by decide +kernel) (by decide +kernel), mg 605 (by decide +kernel) (by decide +kernel), ⟨by decide +kernel, by decide +kernel, by decide +kernel⟩, by decide, by decide +kernel⟩
theorem im_X6_ofCard : Cond.instanceMethod yX6_ofCard ∈ tbG := mg 603 (by decide +kernel) (by decide +kernel)
theorem se_X6_ofCard : Cond.selects yX6_ofCard.cls yX6_ofCard yX6_ofCard ∈ tbG := mg 604 (by decide +kernel) (by decide +kernel)
theorem mo_X6_told : MO m_X6_told 1 := ⟨mg 45 (by decide +kernel) (by decide +kernel), mg 622 (by decide +kernel) (by decide +kernel), ⟨by decide +kernel, by decide +kernel, by decide +kernel⟩, by decide, by decide +kernel⟩
theorem im_X6_told : Cond.instanceMethod yX6_told ∈ tbG := mg 620 (by decide +kernel) (by decide +kernel)
theorem se_X6_told : Cond.selects yX6_told.cls yX6_told yX6_told ∈ tbG := mg 621 (by decide +kernel) (by decide +kernel)
theorem mo_X6_total : MO m_X6_total 1 := ⟨mg 45 (by decide +kernel) (by decide +kernel), mg 631 (by decide +kernel) (by decide +kernel), ⟨by decide +kernel, by decide +kernel, by decide +kernel⟩, by decide, by decide +kernel⟩
theorem im_X6_total : Cond.instanceMethod yX6_total ∈ tbG := mg 629 (by decide +kernel) (by decide +kernel)
theorem se_X6_total : Cond.selects yX6_total.cls yX6_total yX6_total ∈ tbG := mg 630 (by decide +kernel) (by decide +kernel)
theorem mo_X6_count : MO m_X6_count 2 := ⟨mg 45 (by decide +kernel) (by decide +kernel), mg 656 (by decide +kernel) (by decide +kernel), ⟨by decide +kernel, by decide +kernel, by decide +kernel⟩, by decide, by decide +kernel⟩
theorem im_X6_count : Cond.instanceMethod yX6_count ∈ tbG := mg 654 (by decide +kernel) (by decide +kernel)
theorem se_X6_count : Cond.selects yX6_count.cls yX6_count yX6_count ∈ tbG := mg 655 (by decide +kernel) (by decide +kernel)
theorem mo_X6_walkTakes : MO m_X6_walkTakes 2 := ⟨mg 45 (by decide +kernel) (by decide +kernel), mg 661 (by decide +kernel) (by decide +kernel), ⟨by decide +kernel, by decide +kernel, by decide +kernel⟩, by decide, by decide +kernel⟩
theorem im_X6_walkTakes : Cond.instanceMethod yX6_walkTakes ∈ tbG := mg 659 (by decide +kernel) (by decide +kernel)
theorem se_X6_walkTakes : Cond.selects yX6_walkTakes.cls yX6_walkTakes yX6_walkTakes ∈ tbG := mg 660 (by decide +kernel) (by decide +kernel)
theorem mo_X6_roundsTake : MO m_X6_roundsTake 2 := ⟨mg 45 (by decide +kernel) (by decide +kernel), mg 665 (by decide +kernel) (by decide +kernel), ⟨by decide +kernel, by decide +kernel, by decide +kernel⟩, by decide, by decide +kernel⟩
theorem im_X6_roundsTake : Cond.instanceMethod yX6_roundsTake ∈ tbG := mg 663 (by decide +kernel) (by decide +kernel)
theorem se_X6_roundsTake : Cond.selects yX6_roundsTake.cls yX6_roundsTake yX6_roundsTake ∈ tbG := mg 664 (by decide +kernel) (by decide +kernel)
theorem mo_X6_bestFrame : MO m_X6_bestFrame 0 := ⟨mg 45 (by decide +kernel) (by decide +kernel), mg 670 (by decide +kernel) (by decide +kernel), ⟨by decide +kernel, by decide +kernel, by decide +kernel⟩, by decide, by decide +kernel⟩
theorem im_X6_bestFrame : Cond.instanceMethod yX6_bestFrame ∈ tbG := mg 668 (by decide +kernel) (by decide +kernel)
theorem se_X6_bestFrame : Cond.selects yX6_bestFrame.cls yX6_bestFrame yX6_bestFrame ∈ tbG := mg 669 (by decide +kernel) (by decide +kernel)
theorem mo_X6_thickest : MO m_X6_thickest 1 := ⟨mg 45 (by decide +kernel) (by decide +kernel), mg 674 (by decide +kernel) (by decide +kernel), ⟨by decide +kernel, by decide +kernel, by decide +kernel⟩, by decide, by decide +kernel⟩
theorem im_X6_thickest : Cond.instanceMethod yX6_thickest ∈ tbG := mg 672 (by decide +kernel) (by decide +kernel)
theorem se_X6_thickest : Cond.selects yX6_thickest.cls yX6_thickest yX6_thickest ∈ tbG := mg 673 (by decide +kernel) (by decide +kernel)
theorem mo_X6_recorded : MO m_X6_recorded 1 := ⟨mg 45 (by decide +kernel) (by decide +kernel), mg 297 (by decide +kernel) (by decide +kernel), ⟨by decide +kernel, by decide +kernel, by decide +kernel⟩, by decide, by decide +kernel⟩
theorem im_X6_recorded : Cond.instanceMethod yX6_recorded ∈ tbG := mg 296 (by decide +kernel) (by decide +kernel)
theorem se_X6_recorded : Cond.selects yX6_recorded.cls yX6_recorded yX6_recorded ∈ tbG := mg 1 (by decide +kernel) (by decide +kernel)
theorem mo_X6_isBeginning : MO m_X6_isBeginning 2 := ⟨mg 45 (by decide +kernel) (by decide +kernel), mg 416 (by decide +kernel) (by decide +kernel), ⟨by decide +kernel, by decide +kernel, by decide +kernel⟩, by decide, by decide +kernel⟩
theorem sm_X6_isBeginning : Cond.static yX6_isBeginning ∈ tbG := mg 415 (by decide +kernel) (by decide +kernel)
theorem mo_X6_isFrameSize : MO m_X6_isFrameSize 1 := ⟨mg 45 (by decide +kernel) (by decide +kernel), mg 483 (by decide +kernel) (by decide +kernel), ⟨by decide +kernel, by decide +kernel, by decide +kernel⟩, by decide, by decide +kernel⟩
theorem sm_X6_isFrameSize : Cond.static yX6_isFrameSize ∈ tbG := mg 482 (by decide +kernel) (by decide +kernel)
theorem mo_X6_firstBits : MO m_X6_firstBits 2 := ⟨mg 45 (by decide +kernel) (by decide +kernel), mg 349 (by decide +kernel) (by decide +kernel), ⟨by decide +kernel, by decide +kernel, by decide +kernel⟩, by decide, by decide +kernel⟩
theorem sm_X6_firstBits : Cond.static yX6_firstBits ∈ tbG := mg 348 (by decide +kernel) (by decide +kernel)
theorem mo_X6_firstOne : MO m_X6_firstOne 1 := ⟨mg 45 (by decide +kernel) (by decide +kernel), mg 443 (by decide +kernel) (by decide +kernel), ⟨by decide +kernel, by decide +kernel, by decide +kernel⟩, by decide, by decide +kernel⟩
theorem sm_X6_firstOne : Cond.static yX6_firstOne ∈ tbG := mg 442 (by decide +kernel) (by decide +kernel)
theorem mo_X7_init : MO m_X7_init 0 := ⟨mg 52 (by decide +kernel) (by decide +kernel), mg 679 (by decide +kernel) (by decide +kernel), ⟨by decide +kernel, by decide +kernel, by decide +kernel⟩, by decide, by decide +kernel⟩
theorem im_X7_init : Cond.instanceMethod yX7_init ∈ tbG := mg 678 (by decide +kernel) (by decide +kernel)
theorem mo_X7_in : MO m_X7_in 3 := ⟨mg 52 (by decide +kernel) (by decide +kernel), mg 775 (by decide +kernel) (by decide +kernel), ⟨by decide +kernel, by decide +kernel, by decide +kernel⟩, by decide, by decide +kernel⟩
theorem sm_X7_in : Cond.static yX7_in ∈ tbG := mg 774 (by decide +kernel) (by decide +kernel)
theorem mo_X7_of : MO m_X7_of 2 := ⟨mg 52 (by decide +kernel) (by decide +kernel), mg 783 (by decide +kernel) (by decide +kernel), ⟨by decide +kernel, by decide +kernel, by decide +kernel⟩, by decide, by decide +kernel⟩
theorem im_X7_of : Cond.instanceMethod yX7_of ∈ tbG := mg 782 (by decide +kernel) (by decide +kernel)
theorem se_X7_of : Cond.selects yX7_of.cls yX7_of yX7_of ∈ tbG := mg 16 (by decide +kernel) (by decide +kernel)
theorem mo_X7_lay : MO m_X7_lay 3 := ⟨mg 52 (by decide +kernel) (by decide +kernel), mg 791 (by decide +kernel) (by decide +kernel), ⟨by decide +kernel, by decide +kernel, by decide +kernel⟩, by decide, by decide +kernel⟩
theorem im_X7_lay : Cond.instanceMethod yX7_lay ∈ tbG := mg 790 (by decide +kernel) (by decide +kernel)
theorem se_X7_lay : Cond.selects yX7_lay.cls yX7_lay yX7_lay ∈ tbG := mg 18 (by decide +kernel) (by decide +kernel)
theorem mo_X7_cardWith : MO m_X7_cardWith 1 := ⟨mg 52 (by decide +kernel) (by decide +kernel), mg 779 (by decide +kernel) (by decide +kernel), ⟨by decide +kernel, by decide +kernel, by decide +kernel⟩, by decide, by decide +kernel⟩
theorem im_X7_cardWith : Cond.instanceMethod yX7_cardWith ∈ tbG := mg 778 (by decide +kernel) (by decide +kernel)
theorem se_X7_cardWith : Cond.selects yX7_cardWith.cls yX7_cardWith yX7_cardWith ∈ tbG := mg 15 (by decide +kernel) (by decide +kernel)
theorem mo_X7_copyState : MO m_X7_copyState 4 := ⟨mg 52 (by decide +kernel) (by decide +kernel), mg 748 (by decide +kernel) (by decide +kernel), ⟨by decide +kernel, by decide +kernel, by decide +kernel⟩, by decide, by decide +kernel⟩
theorem sm_X7_copyState : Cond.static yX7_copyState ∈ tbG := mg 747 (by decide +kernel) (by decide +kernel)
theorem mo_X7_recordRow : MO m_X7_recordRow 1 := ⟨mg 52 (by decide +kernel) (by decide +kernel), mg 764 (by decide +kernel) (by decide +kernel), ⟨by decide +kernel, by decide +kernel, by decide +kernel⟩, by decide, by decide +kernel⟩
theorem im_X7_recordRow : Cond.instanceMethod yX7_recordRow ∈ tbG := mg 763 (by decide +kernel) (by decide +kernel)
theorem se_X7_recordRow : Cond.selects yX7_recordRow.cls yX7_recordRow yX7_recordRow ∈ tbG := mg 13 (by decide +kernel) (by decide +kernel)
theorem mo_X7_record : MO m_X7_record 0 := ⟨mg 52 (by decide +kernel) (by decide +kernel), mg 760 (by decide +kernel) (by decide +kernel), ⟨by decide +kernel, by decide +kernel, by decide +kernel⟩, by decide, by decide +kernel⟩
theorem im_X7_record : Cond.instanceMethod yX7_record ∈ tbG := mg 759 (by decide +kernel) (by decide +kernel)
theorem se_X7_record : Cond.selects yX7_record.cls yX7_record yX7_record ∈ tbG := mg 12 (by decide +kernel) (by decide +kernel)
theorem mo_X7_undo : MO m_X7_undo 0 := ⟨mg 52 (by decide +kernel) (by decide +kernel), mg 745 (by decide +kernel) (by decide +kernel), ⟨by decide +kernel, by decide +kernel, by decide +kernel⟩, by decide, by decide +kernel⟩
theorem im_X7_undo : Cond.instanceMethod yX7_undo ∈ tbG := mg 743 (by decide +kernel) (by decide +kernel)
theorem se_X7_undo : Cond.selects yX7_undo.cls yX7_undo yX7_undo ∈ tbG := mg 744 (by decide +kernel) (by decide +kernel)
theorem mo_X7_keep : MO m_X7_keep 0 := ⟨mg 52 (by decide +kernel) (by decide +kernel), mg 752 (by decide +kernel) (by decide +kernel), ⟨by decide +kernel, by decide +kernel, by decide +kernel⟩, by decide, by decide +kernel⟩
theorem im_X7_keep : Cond.instanceMethod yX7_keep ∈ tbG := mg 750 (by decide +kernel) (by decide +kernel)
theorem se_X7_keep : Cond.selects yX7_keep.cls yX7_keep yX7_keep ∈ tbG := mg 751 (by decide +kernel) (by decide +kernel)
theorem mo_X7_restore : MO m_X7_restore 0 := ⟨mg 52 (by decide +kernel) (by decide +kernel), mg 756 (by decide +kernel) (by decide +kernel), ⟨by decide +kernel, by decide +kernel, by decide +kernel⟩, by decide, by decide +kernel⟩
theorem im_X7_restore : Cond.instanceMethod yX7_restore ∈ tbG := mg 754 (by decide +kernel) (by decide +kernel)
theorem se_X7_restore : Cond.selects yX7_restore.cls yX7_restore yX7_restore ∈ tbG := mg 755 (by decide +kernel) (by decide +kernel)
theorem mo_X7_whyNotPut : MO m_X7_whyNotPut 1 := ⟨mg 52 (by decide +kernel) (by decide +kernel), mg 772 (by decide +kernel) (by decide +kernel), ⟨by decide +kernel, by decide +kernel, by decide +kernel⟩, by decide, by decide +kernel⟩
theorem im_X7_whyNotPut : Cond.instanceMethod yX7_whyNotPut ∈ tbG := mg 771 (by decide +kernel) (by decide +kernel)
theorem se_X7_whyNotPut : Cond.selects yX7_whyNotPut.cls yX7_whyNotPut yX7_whyNotPut ∈ tbG := mg 14 (by decide +kernel) (by decide +kernel)
theorem mo_X7_putNow : MO m_X7_putNow 1 := ⟨mg 52 (by decide +kernel) (by decide +kernel), mg 787 (by decide +kernel) (by decide +kernel), ⟨by decide +kernel, by decide +kernel, by decide +kernel⟩, by decide, by decide +kernel⟩
theorem im_X7_putNow : Cond.instanceMethod yX7_putNow ∈ tbG := mg 786 (by decide +kernel) (by decide +kernel)
theorem se_X7_putNow : Cond.selects yX7_putNow.cls yX7_putNow yX7_putNow ∈ tbG := mg 17 (by decide +kernel) (by decide +kernel)
theorem mo_X7_takeNow : MO m_X7_takeNow 1 := ⟨mg 52 (by decide +kernel) (by decide +kernel), mg 799 (by decide +kernel) (by decide +kernel), ⟨by decide +kernel, by decide +kernel, by decide +kernel⟩, by decide, by decide +kernel⟩
theorem im_X7_takeNow : Cond.instanceMethod yX7_takeNow ∈ tbG := mg 798 (by decide +kernel) (by decide +kernel)
theorem se_X7_takeNow : Cond.selects yX7_takeNow.cls yX7_takeNow yX7_takeNow ∈ tbG := mg 19 (by decide +kernel) (by decide +kernel)
theorem mo_X7_put : MO m_X7_put 1 := ⟨mg 52 (by decide +kernel) (by decide +kernel), mg 768 (by decide +kernel) (by decide +kernel), ⟨by decide +kernel, by decide +kernel, by decide +kernel⟩, by decide, by decide +kernel⟩
theorem im_X7_put : Cond.instanceMethod yX7_put ∈ tbG := mg 766 (by decide +kernel) (by decide +kernel)
theorem se_X7_put : Cond.selects yX7_put.cls yX7_put yX7_put ∈ tbG := mg 767 (by decide +kernel) (by decide +kernel)
theorem mo_X7_take : MO m_X7_take 1 := ⟨mg 52 (by decide +kernel) (by decide +kernel), mg 795 (by decide +kernel) (by decide +kernel), ⟨by decide +kernel, by decide +kernel, by decide +kernel⟩, by decide, by decide +kernel⟩
theorem im_X7_take : Cond.instanceMethod yX7_take ∈ tbG := mg 793 (by decide +kernel) (by decide +kernel)
theorem se_X7_take : Cond.selects yX7_take.cls yX7_take yX7_take ∈ tbG := mg 794 (by decide +kernel) (by decide +kernel)
theorem mo_X7_awake : MO m_X7_awake 0 := ⟨mg 52 (by decide +kernel) (by decide +kernel), mg 807 (by decide +kernel) (by decide +kernel), ⟨by decide +kernel, by decide +kernel, by decide +kernel⟩, by decide, by decide +kernel⟩
theorem im_X7_awake : Cond.instanceMethod yX7_awake ∈ tbG := mg 806 (by decide +kernel) (by decide +kernel)
theorem se_X7_awake : Cond.selects yX7_awake.cls yX7_awake yX7_awake ∈ tbG := mg 20 (by decide +kernel) (by decide +kernel)
theorem mo_X7_sleep : MO m_X7_sleep 1 := ⟨mg 52 (by decide +kernel) (by decide +kernel), mg 803 (by decide +kernel) (by decide +kernel), ⟨by decide +kernel, by decide +kernel, by decide +kernel⟩, by decide, by decide +kernel⟩
theorem im_X7_sleep : Cond.instanceMethod yX7_sleep ∈ tbG := mg 801 (by decide +kernel) (by decide +kernel)
theorem se_X7_sleep : Cond.selects yX7_sleep.cls yX7_sleep yX7_sleep ∈ tbG := mg 802 (by decide +kernel) (by decide +kernel)
theorem mo_X7_wakeNow : MO m_X7_wakeNow 0 := ⟨mg 52 (by decide +kernel) (by decide +kernel), mg 815 (by decide +kernel) (by decide +kernel), ⟨by decide +kernel, by decide +kernel, by decide +kernel⟩, by decide, by decide +kernel⟩
theorem im_X7_wakeNow : Cond.instanceMethod yX7_wakeNow ∈ tbG := mg 814 (by decide +kernel) (by decide +kernel)
theorem se_X7_wakeNow : Cond.selects yX7_wakeNow.cls yX7_wakeNow yX7_wakeNow ∈ tbG := mg 21 (by decide +kernel) (by decide +kernel)
theorem mo_X7_wakeAll : MO m_X7_wakeAll 0 := ⟨mg 52 (by decide +kernel) (by decide +kernel), mg 811 (by decide +kernel) (by decide +kernel), ⟨by decide +kernel, by decide +kernel, by decide +kernel⟩, by decide, by decide +kernel⟩
theorem im_X7_wakeAll : Cond.instanceMethod yX7_wakeAll ∈ tbG := mg 809 (by decide +kernel) (by decide +kernel)
theorem se_X7_wakeAll : Cond.selects yX7_wakeAll.cls yX7_wakeAll yX7_wakeAll ∈ tbG := mg 810 (by decide +kernel) (by decide +kernel)
theorem mo_X7_leave : MO m_X7_leave 2 := ⟨mg 52 (by decide +kernel) (by decide +kernel), mg 819 (by decide +kernel) (by decide +kernel), ⟨by decide +kernel, by decide +kernel, by decide +kernel⟩, by decide, by decide +kernel⟩
theorem im_X7_leave : Cond.instanceMethod yX7_leave ∈ tbG := mg 817 (by decide +kernel) (by decide +kernel)
theorem se_X7_leave : Cond.selects yX7_leave.cls yX7_leave yX7_leave ∈ tbG := mg 818 (by decide +kernel) (by decide +kernel)
theorem mo_X7_set : MO m_X7_set 2 := ⟨mg 52 (by decide +kernel) (by decide +kernel), mg 823 (by decide +kernel) (by decide +kernel), ⟨by decide +kernel, by decide +kernel, by decide +kernel⟩, by decide, by decide +kernel⟩
theorem im_X7_set : Cond.instanceMethod yX7_set ∈ tbG := mg 821 (by decide +kernel) (by decide +kernel)
theorem se_X7_set : Cond.selects yX7_set.cls yX7_set yX7_set ∈ tbG := mg 822 (by decide +kernel) (by decide +kernel)
theorem mo_X7_shuffle : MO m_X7_shuffle 1 := ⟨mg 52 (by decide +kernel) (by decide +kernel), mg 827 (by decide +kernel) (by decide +kernel), ⟨by decide +kernel, by decide +kernel, by decide +kernel⟩, by decide, by decide +kernel⟩
theorem im_X7_shuffle : Cond.instanceMethod yX7_shuffle ∈ tbG := mg 825 (by decide +kernel) (by decide +kernel)
theorem se_X7_shuffle : Cond.selects yX7_shuffle.cls yX7_shuffle yX7_shuffle ∈ tbG := mg 826 (by decide +kernel) (by decide +kernel)
theorem mo_X7_forget : MO m_X7_forget 0 := ⟨mg 52 (by decide +kernel) (by decide +kernel), mg 831 (by decide +kernel) (by decide +kernel), ⟨by decide +kernel, by decide +kernel, by decide +kernel⟩, by decide, by decide +kernel⟩
theorem im_X7_forget : Cond.instanceMethod yX7_forget ∈ tbG := mg 829 (by decide +kernel) (by decide +kernel)
theorem se_X7_forget : Cond.selects yX7_forget.cls yX7_forget yX7_forget ∈ tbG := mg 830 (by decide +kernel) (by decide +kernel)
theorem mo_X7_tell : MO m_X7_tell 1 := ⟨mg 52 (by decide +kernel) (by decide +kernel), mg 865 (by decide +kernel) (by decide +kernel), ⟨by decide +kernel, by decide +kernel, by decide +kernel⟩, by decide, by decide +kernel⟩
theorem im_X7_tell : Cond.instanceMethod yX7_tell ∈ tbG := mg 864 (by decide +kernel) (by decide +kernel)
theorem se_X7_tell : Cond.selects yX7_tell.cls yX7_tell yX7_tell ∈ tbG := mg 27 (by decide +kernel) (by decide +kernel)
theorem mo_X7_letGo : MO m_X7_letGo 0 := ⟨mg 52 (by decide +kernel) (by decide +kernel), mg 869 (by decide +kernel) (by decide +kernel), ⟨by decide +kernel, by decide +kernel, by decide +kernel⟩, by decide, by decide +kernel⟩
theorem im_X7_letGo : Cond.instanceMethod yX7_letGo ∈ tbG := mg 868 (by decide +kernel) (by decide +kernel)
theorem se_X7_letGo : Cond.selects yX7_letGo.cls yX7_letGo yX7_letGo ∈ tbG := mg 28 (by decide +kernel) (by decide +kernel)
theorem mo_X7_begins : MO m_X7_begins 3 := ⟨mg 52 (by decide +kernel) (by decide +kernel), mg 849 (by decide +kernel) (by decide +kernel), ⟨by decide +kernel, by decide +kernel, by decide +kernel⟩, by decide, by decide +kernel⟩
theorem sm_X7_begins : Cond.static yX7_begins ∈ tbG := mg 848 (by decide +kernel) (by decide +kernel)
theorem mo_X7_noAnswer : MO m_X7_noAnswer 0 := ⟨mg 52 (by decide +kernel) (by decide +kernel), mg 846 (by decide +kernel) (by decide +kernel), ⟨by decide +kernel, by decide +kernel, by decide +kernel⟩, by decide, by decide +kernel⟩
theorem im_X7_noAnswer : Cond.instanceMethod yX7_noAnswer ∈ tbG := mg 845 (by decide +kernel) (by decide +kernel)
theorem se_X7_noAnswer : Cond.selects yX7_noAnswer.cls yX7_noAnswer yX7_noAnswer ∈ tbG := mg 23 (by decide +kernel) (by decide +kernel)
theorem mo_X7_answers : MO m_X7_answers 1 := ⟨mg 52 (by decide +kernel) (by decide +kernel), mg 853 (by decide +kernel) (by decide +kernel), ⟨by decide +kernel, by decide +kernel, by decide +kernel⟩, by decide, by decide +kernel⟩
theorem im_X7_answers : Cond.instanceMethod yX7_answers ∈ tbG := mg 852 (by decide +kernel) (by decide +kernel)
theorem se_X7_answers : Cond.selects yX7_answers.cls yX7_answers yX7_answers ∈ tbG := mg 24 (by decide +kernel) (by decide +kernel)
theorem mo_X7_clashBit : MO m_X7_clashBit 0 := ⟨mg 52 (by decide +kernel) (by decide +kernel), mg 861 (by decide +kernel) (by decide +kernel), ⟨by decide +kernel, by decide +kernel, by decide +kernel⟩, by decide, by decide +kernel⟩
theorem im_X7_clashBit : Cond.instanceMethod yX7_clashBit ∈ tbG := mg 860 (by decide +kernel) (by decide +kernel)
theorem se_X7_clashBit : Cond.selects yX7_clashBit.cls yX7_clashBit yX7_clashBit ∈ tbG := mg 26 (by decide +kernel) (by decide +kernel)
theorem mo_X7_answer : MO m_X7_answer 0 := ⟨mg 52 (by decide +kernel) (by decide +kernel), mg 857 (by decide +kernel) (by decide +kernel), ⟨by decide +kernel, by decide +kernel, by decide +kernel⟩, by decide, by decide +kernel⟩
theorem im_X7_answer : Cond.instanceMethod yX7_answer ∈ tbG := mg 856 (by decide +kernel) (by decide +kernel)
theorem se_X7_answer : Cond.selects yX7_answer.cls yX7_answer yX7_answer ∈ tbG := mg 25 (by decide +kernel) (by decide +kernel)
theorem mo_X7_askNow : MO m_X7_askNow 2 := ⟨mg 52 (by decide +kernel) (by decide +kernel), mg 842 (by decide +kernel) (by decide +kernel), ⟨by decide +kernel, by decide +kernel, by decide +kernel⟩, by decide, by decide +kernel⟩
theorem im_X7_askNow : Cond.instanceMethod yX7_askNow ∈ tbG := mg 841 (by decide +kernel) (by decide +kernel)
theorem se_X7_askNow : Cond.selects yX7_askNow.cls yX7_askNow yX7_askNow ∈ tbG := mg 22 (by decide +kernel) (by decide +kernel)
theorem mo_X7_isBeginning : MO m_X7_isBeginning 2 := ⟨mg 52 (by decide +kernel) (by decide +kernel), mg 838 (by decide +kernel) (by decide +kernel), ⟨by decide +kernel, by decide +kernel, by decide +kernel⟩, by decide, by decide +kernel⟩
theorem sm_X7_isBeginning : Cond.static yX7_isBeginning ∈ tbG := mg 837 (by decide +kernel) (by decide +kernel)
theorem mo_X7_ask : MO m_X7_ask 2 := ⟨mg 52 (by decide +kernel) (by decide +kernel), mg 835 (by decide +kernel) (by decide +kernel), ⟨by decide +kernel, by decide +kernel, by decide +kernel⟩, by decide, by decide +kernel⟩
theorem im_X7_ask : Cond.instanceMethod yX7_ask ∈ tbG := mg 833 (by decide +kernel) (by decide +kernel)
theorem se_X7_ask : Cond.selects yX7_ask.cls yX7_ask yX7_ask ∈ tbG := mg 834 (by decide +kernel) (by decide +kernel)
theorem mo_X7_walkNow : MO m_X7_walkNow 1 := ⟨mg 52 (by decide +kernel) (by decide +kernel), mg 877 (by decide +kernel) (by decide +kernel), ⟨by decide +kernel, by decide +kernel, by decide +kernel⟩, by decide, by decide +kernel⟩
theorem im_X7_walkNow : Cond.instanceMethod yX7_walkNow ∈ tbG := mg 876 (by decide +kernel) (by decide +kernel)
theorem se_X7_walkNow : Cond.selects yX7_walkNow.cls yX7_walkNow yX7_walkNow ∈ tbG := mg 29 (by decide +kernel) (by decide +kernel)
theorem mo_X7_walk : MO m_X7_walk 1 := ⟨mg 52 (by decide +kernel) (by decide +kernel), mg 873 (by decide +kernel) (by decide +kernel), ⟨by decide +kernel, by decide +kernel, by decide +kernel⟩, by decide, by decide +kernel⟩
theorem im_X7_walk : Cond.instanceMethod yX7_walk ∈ tbG := mg 871 (by decide +kernel) (by decide +kernel)
theorem se_X7_walk : Cond.selects yX7_walk.cls yX7_walk yX7_walk ∈ tbG := mg 872 (by decide +kernel) (by decide +kernel)
theorem mo_X7_draw : MO m_X7_draw 1 := ⟨mg 52 (by decide +kernel) (by decide +kernel), mg 892 (by decide +kernel) (by decide +kernel), ⟨by decide +kernel, by decide +kernel, by decide +kernel⟩, by decide, by decide +kernel⟩
theorem im_X7_draw : Cond.instanceMethod yX7_draw ∈ tbG := mg 891 (by decide +kernel) (by decide +kernel)
theorem se_X7_draw : Cond.selects yX7_draw.cls yX7_draw yX7_draw ∈ tbG := mg 31 (by decide +kernel) (by decide +kernel)
theorem mo_X7_frameNow : MO m_X7_frameNow 1 := ⟨mg 52 (by decide +kernel) (by decide +kernel), mg 888 (by decide +kernel) (by decide +kernel), ⟨by decide +kernel, by decide +kernel, by decide +kernel⟩, by decide, by decide +kernel⟩
theorem im_X7_frameNow : Cond.instanceMethod yX7_frameNow ∈ tbG := mg 887 (by decide +kernel) (by decide +kernel)
theorem se_X7_frameNow : Cond.selects yX7_frameNow.cls yX7_frameNow yX7_frameNow ∈ tbG := mg 30 (by decide +kernel) (by decide +kernel)
theorem mo_X7_isSlots : MO m_X7_isSlots 1 := ⟨mg 52 (by decide +kernel) (by decide +kernel), mg 884 (by decide +kernel) (by decide +kernel), ⟨by decide +kernel, by decide +kernel, by decide +kernel⟩, by decide, by decide +kernel⟩
theorem sm_X7_isSlots : Cond.static yX7_isSlots ∈ tbG := mg 883 (by decide +kernel) (by decide +kernel)
theorem mo_X7_frame : MO m_X7_frame 1 := ⟨mg 52 (by decide +kernel) (by decide +kernel), mg 881 (by decide +kernel) (by decide +kernel), ⟨by decide +kernel, by decide +kernel, by decide +kernel⟩, by decide, by decide +kernel⟩
theorem im_X7_frame : Cond.instanceMethod yX7_frame ∈ tbG := mg 879 (by decide +kernel) (by decide +kernel)
theorem se_X7_frame : Cond.selects yX7_frame.cls yX7_frame yX7_frame ∈ tbG := mg 880 (by decide +kernel) (by decide +kernel)
theorem mo_X7_nextSize : MO m_X7_nextSize 3 := ⟨mg 52 (by decide +kernel) (by decide +kernel), mg 908 (by decide +kernel) (by decide +kernel), ⟨by decide +kernel, by decide +kernel, by decide +kernel⟩, by decide, by decide +kernel⟩
theorem im_X7_nextSize : Cond.instanceMethod yX7_nextSize ∈ tbG := mg 907 (by decide +kernel) (by decide +kernel)
theorem se_X7_nextSize : Cond.selects yX7_nextSize.cls yX7_nextSize yX7_nextSize ∈ tbG := mg 33 (by decide +kernel) (by decide +kernel)
theorem mo_X7_roundsNow : MO m_X7_roundsNow 1 := ⟨mg 52 (by decide +kernel) (by decide +kernel), mg 904 (by decide +kernel) (by decide +kernel), ⟨by decide +kernel, by decide +kernel, by decide +kernel⟩, by decide, by decide +kernel⟩
theorem im_X7_roundsNow : Cond.instanceMethod yX7_roundsNow ∈ tbG := mg 903 (by decide +kernel) (by decide +kernel)
theorem se_X7_roundsNow : Cond.selects yX7_roundsNow.cls yX7_roundsNow yX7_roundsNow ∈ tbG := mg 32 (by decide +kernel) (by decide +kernel)
theorem mo_X7_rounds : MO m_X7_rounds 1 := ⟨mg 52 (by decide +kernel) (by decide +kernel), mg 900 (by decide +kernel) (by decide +kernel), ⟨by decide +kernel, by decide +kernel, by decide +kernel⟩, by decide, by decide +kernel⟩
theorem im_X7_rounds : Cond.instanceMethod yX7_rounds ∈ tbG := mg 898 (by decide +kernel) (by decide +kernel)
theorem se_X7_rounds : Cond.selects yX7_rounds.cls yX7_rounds yX7_rounds ∈ tbG := mg 899 (by decide +kernel) (by decide +kernel)
theorem mo_X7_type : MO m_X7_type 1 := ⟨mg 52 (by decide +kernel) (by decide +kernel), mg 912 (by decide +kernel) (by decide +kernel), ⟨by decide +kernel, by decide +kernel, by decide +kernel⟩, by decide, by decide +kernel⟩
theorem im_X7_type : Cond.instanceMethod yX7_type ∈ tbG := mg 910 (by decide +kernel) (by decide +kernel)
theorem se_X7_type : Cond.selects yX7_type.cls yX7_type yX7_type ∈ tbG := mg 911 (by decide +kernel) (by decide +kernel)
theorem mo_X7_clearText : MO m_X7_clearText 0 := ⟨mg 52 (by decide +kernel) (by decide +kernel), mg 916 (by decide +kernel) (by decide +kernel), ⟨by decide +kernel, by decide +kernel, by decide +kernel⟩, by decide, by decide +kernel⟩
theorem im_X7_clearText : Cond.instanceMethod yX7_clearText ∈ tbG := mg 914 (by decide +kernel) (by decide +kernel)
theorem se_X7_clearText : Cond.selects yX7_clearText.cls yX7_clearText yX7_clearText ∈ tbG := mg 915 (by decide +kernel) (by decide +kernel)
theorem mo_X7_sees : MO m_X7_sees 2 := ⟨mg 52 (by decide +kernel) (by decide +kernel), mg 936 (by decide +kernel) (by decide +kernel), ⟨by decide +kernel, by decide +kernel, by decide +kernel⟩, by decide, by decide +kernel⟩
theorem im_X7_sees : Cond.instanceMethod yX7_sees ∈ tbG := mg 935 (by decide +kernel) (by decide +kernel)
theorem se_X7_sees : Cond.selects yX7_sees.cls yX7_sees yX7_sees ∈ tbG := mg 37 (by decide +kernel) (by decide +kernel)
theorem mo_X7_takes : MO m_X7_takes 1 := ⟨mg 52 (by decide +kernel) (by decide +kernel), mg 940 (by decide +kernel) (by decide +kernel), ⟨by decide +kernel, by decide +kernel, by decide +kernel⟩, by decide, by decide +kernel⟩
theorem im_X7_takes : Cond.instanceMethod yX7_takes ∈ tbG := mg 939 (by decide +kernel) (by decide +kernel)
theorem se_X7_takes : Cond.selects yX7_takes.cls yX7_takes yX7_takes ∈ tbG := mg 38 (by decide +kernel) (by decide +kernel)
theorem mo_X7_number : MO m_X7_number 2 := ⟨mg 52 (by decide +kernel) (by decide +kernel), mg 932 (by decide +kernel) (by decide +kernel), ⟨by decide +kernel, by decide +kernel, by decide +kernel⟩, by decide, by decide +kernel⟩
theorem im_X7_number : Cond.instanceMethod yX7_number ∈ tbG := mg 931 (by decide +kernel) (by decide +kernel)
theorem se_X7_number : Cond.selects yX7_number.cls yX7_number yX7_number ∈ tbG := mg 36 (by decide +kernel) (by decide +kernel)
theorem mo_X7_readOrder : MO m_X7_readOrder 0 := ⟨mg 52 (by decide +kernel) (by decide +kernel), mg 928 (by decide +kernel) (by decide +kernel), ⟨by decide +kernel, by decide +kernel, by decide +kernel⟩, by decide, by decide +kernel⟩
theorem im_X7_readOrder : Cond.instanceMethod yX7_readOrder ∈ tbG := mg 927 (by decide +kernel) (by decide +kernel)
theorem se_X7_readOrder : Cond.selects yX7_readOrder.cls yX7_readOrder yX7_readOrder ∈ tbG := mg 35 (by decide +kernel) (by decide +kernel)
theorem mo_X7_readText : MO m_X7_readText 0 := ⟨mg 52 (by decide +kernel) (by decide +kernel), mg 924 (by decide +kernel) (by decide +kernel), ⟨by decide +kernel, by decide +kernel, by decide +kernel⟩, by decide, by decide +kernel⟩
theorem im_X7_readText : Cond.instanceMethod yX7_readText ∈ tbG := mg 923 (by decide +kernel) (by decide +kernel)
theorem se_X7_readText : Cond.selects yX7_readText.cls yX7_readText yX7_readText ∈ tbG := mg 34 (by decide +kernel) (by decide +kernel)
theorem mo_X7_whyNot : MO m_X7_whyNot 2 := ⟨mg 52 (by decide +kernel) (by decide +kernel), mg 944 (by decide +kernel) (by decide +kernel), ⟨by decide +kernel, by decide +kernel, by decide +kernel⟩, by decide, by decide +kernel⟩
theorem im_X7_whyNot : Cond.instanceMethod yX7_whyNot ∈ tbG := mg 943 (by decide +kernel) (by decide +kernel)
theorem se_X7_whyNot : Cond.selects yX7_whyNot.cls yX7_whyNot yX7_whyNot ∈ tbG := mg 39 (by decide +kernel) (by decide +kernel)
theorem mo_X7_carryOut : MO m_X7_carryOut 2 := ⟨mg 52 (by decide +kernel) (by decide +kernel), mg 948 (by decide +kernel) (by decide +kernel), ⟨by decide +kernel, by decide +kernel, by decide +kernel⟩, by decide, by decide +kernel⟩
theorem im_X7_carryOut : Cond.instanceMethod yX7_carryOut ∈ tbG := mg 947 (by decide +kernel) (by decide +kernel)
theorem se_X7_carryOut : Cond.selects yX7_carryOut.cls yX7_carryOut yX7_carryOut ∈ tbG := mg 40 (by decide +kernel) (by decide +kernel)
theorem mo_X7_perform : MO m_X7_perform 0 := ⟨mg 52 (by decide +kernel) (by decide +kernel), mg 920 (by decide +kernel) (by decide +kernel), ⟨by decide +kernel, by decide +kernel, by decide +kernel⟩, by decide, by decide +kernel⟩
theorem im_X7_perform : Cond.instanceMethod yX7_perform ∈ tbG := mg 918 (by decide +kernel) (by decide +kernel)
theorem se_X7_perform : Cond.selects yX7_perform.cls yX7_perform yX7_perform ∈ tbG := mg 919 (by decide +kernel) (by decide +kernel)
theorem mo_X7_card : MO m_X7_card 1 := ⟨mg 52 (by decide +kernel) (by decide +kernel), mg 952 (by decide +kernel) (by decide +kernel), ⟨by decide +kernel, by decide +kernel, by decide +kernel⟩, by decide, by decide +kernel⟩
theorem im_X7_card : Cond.instanceMethod yX7_card ∈ tbG := mg 950 (by decide +kernel) (by decide +kernel)
theorem se_X7_card : Cond.selects yX7_card.cls yX7_card yX7_card ∈ tbG := mg 951 (by decide +kernel) (by decide +kernel)
theorem mo_X7_shares : MO m_X7_shares 1 := ⟨mg 52 (by decide +kernel) (by decide +kernel), mg 960 (by decide +kernel) (by decide +kernel), ⟨by decide +kernel, by decide +kernel, by decide +kernel⟩, by decide, by decide +kernel⟩
theorem im_X7_shares : Cond.instanceMethod yX7_shares ∈ tbG := mg 959 (by decide +kernel) (by decide +kernel)
theorem se_X7_shares : Cond.selects yX7_shares.cls yX7_shares yX7_shares ∈ tbG := mg 41 (by decide +kernel) (by decide +kernel)
theorem mo_X7_ofCard : MO m_X7_ofCard 2 := ⟨mg 52 (by decide +kernel) (by decide +kernel), mg 956 (by decide +kernel) (by decide +kernel), ⟨by decide +kernel, by decide +kernel, by decide +kernel⟩, by decide, by decide +kernel⟩
theorem im_X7_ofCard : Cond.instanceMethod yX7_ofCard ∈ tbG := mg 954 (by decide +kernel) (by decide +kernel)
theorem se_X7_ofCard : Cond.selects yX7_ofCard.cls yX7_ofCard yX7_ofCard ∈ tbG := mg 955 (by decide +kernel) (by decide +kernel)
theorem mo_X7_told : MO m_X7_told 1 := ⟨mg 52 (by decide +kernel) (by decide +kernel), mg 964 (by decide +kernel) (by decide +kernel), ⟨by decide +kernel, by decide +kernel, by decide +kernel⟩, by decide, by decide +kernel⟩
theorem im_X7_told : Cond.instanceMethod yX7_told ∈ tbG := mg 962 (by decide +kernel) (by decide +kernel)
theorem se_X7_told : Cond.selects yX7_told.cls yX7_told yX7_told ∈ tbG := mg 963 (by decide +kernel) (by decide +kernel)
theorem mo_X7_leaving : MO m_X7_leaving 0 := ⟨mg 52 (by decide +kernel) (by decide +kernel), mg 972 (by decide +kernel) (by decide +kernel), ⟨by decide +kernel, by decide +kernel, by decide +kernel⟩, by decide, by decide +kernel⟩
theorem im_X7_leaving : Cond.instanceMethod yX7_leaving ∈ tbG := mg 971 (by decide +kernel) (by decide +kernel)
theorem se_X7_leaving : Cond.selects yX7_leaving.cls yX7_leaving yX7_leaving ∈ tbG := mg 42 (by decide +kernel) (by decide +kernel)
theorem mo_X7_total : MO m_X7_total 1 := ⟨mg 52 (by decide +kernel) (by decide +kernel), mg 968 (by decide +kernel) (by decide +kernel), ⟨by decide +kernel, by decide +kernel, by decide +kernel⟩, by decide, by decide +kernel⟩
theorem im_X7_total : Cond.instanceMethod yX7_total ∈ tbG := mg 966 (by decide +kernel) (by decide +kernel)
theorem se_X7_total : Cond.selects yX7_total.cls yX7_total yX7_total ∈ tbG := mg 967 (by decide +kernel) (by decide +kernel)
theorem mo_X7_withBeginning : MO m_X7_withBeginning 2 := ⟨mg 52 (by decide +kernel) (by decide +kernel), mg 980 (by decide +kernel) (by decide +kernel), ⟨by decide +kernel, by decide +kernel, by decide +kernel⟩, by decide, by decide +kernel⟩
theorem im_X7_withBeginning : Cond.instanceMethod yX7_withBeginning ∈ tbG := mg 979 (by decide +kernel) (by decide +kernel)
theorem se_X7_withBeginning : Cond.selects yX7_withBeginning.cls yX7_withBeginning yX7_withBeginning ∈ tbG := mg 43 (by decide +kernel) (by decide +kernel)
theorem mo_X7_count : MO m_X7_count 2 := ⟨mg 52 (by decide +kernel) (by decide +kernel), mg 976 (by decide +kernel) (by decide +kernel), ⟨by decide +kernel, by decide +kernel, by decide +kernel⟩, by decide, by decide +kernel⟩
theorem im_X7_count : Cond.instanceMethod yX7_count ∈ tbG := mg 974 (by decide +kernel) (by decide +kernel)
theorem se_X7_count : Cond.selects yX7_count.cls yX7_count yX7_count ∈ tbG := mg 975 (by decide +kernel) (by decide +kernel)
theorem mo_X7_walkTakes : MO m_X7_walkTakes 2 := ⟨mg 52 (by decide +kernel) (by decide +kernel), mg 984 (by decide +kernel) (by decide +kernel), ⟨by decide +kernel, by decide +kernel, by decide +kernel⟩, by decide, by decide +kernel⟩
theorem im_X7_walkTakes : Cond.instanceMethod yX7_walkTakes ∈ tbG := mg 982 (by decide +kernel) (by decide +kernel)
theorem se_X7_walkTakes : Cond.selects yX7_walkTakes.cls yX7_walkTakes yX7_walkTakes ∈ tbG := mg 983 (by decide +kernel) (by decide +kernel)
theorem mo_X7_roundsTake : MO m_X7_roundsTake 2 := ⟨mg 52 (by decide +kernel) (by decide +kernel), mg 988 (by decide +kernel) (by decide +kernel), ⟨by decide +kernel, by decide +kernel, by decide +kernel⟩, by decide, by decide +kernel⟩
theorem im_X7_roundsTake : Cond.instanceMethod yX7_roundsTake ∈ tbG := mg 986 (by decide +kernel) (by decide +kernel)
theorem se_X7_roundsTake : Cond.selects yX7_roundsTake.cls yX7_roundsTake yX7_roundsTake ∈ tbG := mg 987 (by decide +kernel) (by decide +kernel)
theorem mo_X7_bestFrame : MO m_X7_bestFrame 0 := ⟨mg 52 (by decide +kernel) (by decide +kernel), mg 992 (by decide +kernel) (by decide +kernel), ⟨by decide +kernel, by decide +kernel, by decide +kernel⟩, by decide, by decide +kernel⟩
theorem im_X7_bestFrame : Cond.instanceMethod yX7_bestFrame ∈ tbG := mg 990 (by decide +kernel) (by decide +kernel)
theorem se_X7_bestFrame : Cond.selects yX7_bestFrame.cls yX7_bestFrame yX7_bestFrame ∈ tbG := mg 991 (by decide +kernel) (by decide +kernel)
theorem mo_X7_thickest : MO m_X7_thickest 1 := ⟨mg 52 (by decide +kernel) (by decide +kernel), mg 996 (by decide +kernel) (by decide +kernel), ⟨by decide +kernel, by decide +kernel, by decide +kernel⟩, by decide, by decide +kernel⟩
theorem im_X7_thickest : Cond.instanceMethod yX7_thickest ∈ tbG := mg 994 (by decide +kernel) (by decide +kernel)
theorem se_X7_thickest : Cond.selects yX7_thickest.cls yX7_thickest yX7_thickest ∈ tbG := mg 995 (by decide +kernel) (by decide +kernel)
theorem ii_X6 : Cond.initialized (cR 6) ∈ tbG := mg 45 (by decide +kernel) (by decide +kernel)
theorem ii_X2 : Cond.initialized (cR 2) ∈ tbG := mg 46 (by decide +kernel) (by decide +kernel)
theorem ii_X1 : Cond.initialized (cR 1) ∈ tbG := mg 47 (by decide +kernel) (by decide +kernel)
theorem ii_X5 : Cond.initialized (cR 5) ∈ tbG := mg 48 (by decide +kernel) (by decide +kernel)
theorem ii_X3 : Cond.initialized (cR 3) ∈ tbG := mg 49 (by decide +kernel) (by decide +kernel)
theorem ii_X0 : Cond.initialized (cR 0) ∈ tbG := mg 50 (by decide +kernel) (by decide +kernel)
theorem ii_X4 : Cond.initialized (cR 4) ∈ tbG := mg 51 (by decide +kernel) (by decide +kernel)
theorem ii_X7 : Cond.initialized (cR 7) ∈ tbG := mg 52 (by decide +kernel) (by decide +kernel)
theorem ii_System : Cond.initialized "java/lang/System" ∈ tbG := mg 53 (by decide +kernel) (by decide +kernel)
theorem ii_Math : Cond.initialized "java/lang/Math" ∈ tbG := mg 54 (by decide +kernel) (by decide +kernel)
theorem kl_L_7 : Cond.classLink RL 7 (cR 6) ∈ tbG := mg 55 (by decide +kernel) (by decide +kernel)
theorem it_X6 : Cond.instantiable (cR 6) (cN 6) ∈ tbG := mg 56 (by decide +kernel) (by decide +kernel)
theorem ml_L_9 : Cond.methodLink RL 9 yX6_init ∈ tbG := mg 57 (by decide +kernel) (by decide +kernel)
theorem ml_X6_1 : Cond.methodLink RX6 1 objectInit ∈ tbG := mg 60 (by decide +kernel) (by decide +kernel)
theorem kl_X6_7 : Cond.classLink RX6 7 (cR 2) ∈ tbG := mg 63 (by decide +kernel) (by decide +kernel)
theorem it_X2 : Cond.instantiable (cR 2) (cN 2) ∈ tbG := mg 64 (by decide +kernel) (by decide +kernel)
theorem ml_X6_9 : Cond.methodLink RX6 9 yX2_init ∈ tbG := mg 65 (by decide +kernel) (by decide +kernel)
theorem ml_X2_3 : Cond.methodLink RX2 3 objectInit ∈ tbG := mg 68 (by decide +kernel) (by decide +kernel)
theorem kl_X2_9 : Cond.classLink RX2 9 (cR 1) ∈ tbG := mg 69 (by decide +kernel) (by decide +kernel)
theorem it_X1 : Cond.instantiable (cR 1) (cN 1) ∈ tbG := mg 70 (by decide +kernel) (by decide +kernel)
theorem nl_X2_11 : (RX2, 11, yX1_init, "PocketCards") ∈ nsL := by decide +kernel
theorem ml_X1_3 : Cond.methodLink RX1 3 objectInit ∈ tbG := mg 74 (by decide +kernel) (by decide +kernel)
theorem fl_X1_9 : Cond.fieldLink RX1 9 (cU 1 0).1 (cU 1 0).2.1 (cU 1 0).2.2.1 ∈ tbG := mg 75 (by decide +kernel) (by decide +kernel)
theorem fl_X1_15 : Cond.fieldLink RX1 15 (cU 1 1).1 (cU 1 1).2.1 (cU 1 1).2.2.1 ∈ tbG := mg 76 (by decide +kernel) (by decide +kernel)
theorem fl_X1_18 : Cond.fieldLink RX1 18 (cU 1 2).1 (cU 1 2).2.1 (cU 1 2).2.2.1 ∈ tbG := mg 77 (by decide +kernel) (by decide +kernel)
theorem fl_X1_21 : Cond.fieldLink RX1 21 (cU 1 3).1 (cU 1 3).2.1 (cU 1 3).2.2.1 ∈ tbG := mg 78 (by decide +kernel) (by decide +kernel)
theorem fl_X1_24 : Cond.fieldLink RX1 24 (cU 1 4).1 (cU 1 4).2.1 (cU 1 4).2.2.1 ∈ tbG := mg 79 (by decide +kernel) (by decide +kernel)
theorem fl_X1_28 : Cond.fieldLink RX1 28 (cU 1 5).1 (cU 1 5).2.1 (cU 1 5).2.2.1 ∈ tbG := mg 80 (by decide +kernel) (by decide +kernel)
theorem fl_X1_31 : Cond.fieldLink RX1 31 (cU 1 6).1 (cU 1 6).2.1 (cU 1 6).2.2.1 ∈ tbG := mg 81 (by decide +kernel) (by decide +kernel)
theorem ac_int : Cond.arrayClass .int ∈ tbG := mg 97 (by decide +kernel) (by decide +kernel)
theorem ac_boolean : Cond.arrayClass .boolean ∈ tbG := mg 98 (by decide +kernel) (by decide +kernel)
theorem kl_X2_18 : Cond.classLink RX2 18 (cR 5) ∈ tbG := mg 99 (by decide +kernel) (by decide +kernel)
theorem it_X5 : Cond.instantiable (cR 5) (cN 5) ∈ tbG := mg 100 (by decide +kernel) (by decide +kernel)
theorem nl_X2_20 : (RX2, 20, yX5_init, "PocketCards") ∈ nsL := by decide +kernel
theorem ml_X5_3 : Cond.methodLink RX5 3 objectInit ∈ tbG := mg 104 (by decide +kernel) (by decide +kernel)
theorem fl_X5_9 : Cond.fieldLink RX5 9 (cU 5 0).1 (cU 5 0).2.1 (cU 5 0).2.2.1 ∈ tbG := mg 105 (by decide +kernel) (by decide +kernel)
theorem fl_X5_15 : Cond.fieldLink RX5 15 (cU 5 1).1 (cU 5 1).2.1 (cU 5 1).2.2.1 ∈ tbG := mg 106 (by decide +kernel) (by decide +kernel)
theorem kl_X2_25 : Cond.classLink RX2 25 (cR 3) ∈ tbG := mg 112 (by decide +kernel) (by decide +kernel)
theorem it_X3 : Cond.instantiable (cR 3) (cN 3) ∈ tbG := mg 113 (by decide +kernel) (by decide +kernel)
theorem nl_X2_27 : (RX2, 27, yX3_init, "PocketCards") ∈ nsL := by decide +kernel
theorem ml_X3_3 : Cond.methodLink RX3 3 objectInit ∈ tbG := mg 117 (by decide +kernel) (by decide +kernel)
theorem fl_X3_9 : Cond.fieldLink RX3 9 (cU 3 0).1 (cU 3 0).2.1 (cU 3 0).2.2.1 ∈ tbG := mg 118 (by decide +kernel) (by decide +kernel)
theorem fl_X2_109 : Cond.fieldLink RX2 109 (cU 3 0).1 (cU 3 0).2.1 (cU 3 0).2.2.1 ∈ tbG := mg 119 (by decide +kernel) (by decide +kernel)
theorem fl_X6_191 : Cond.fieldLink RX6 191 (cU 3 0).1 (cU 3 0).2.1 (cU 3 0).2.2.1 ∈ tbG := mg 120 (by decide +kernel) (by decide +kernel)
theorem fl_X3_15 : Cond.fieldLink RX3 15 (cU 3 1).1 (cU 3 1).2.1 (cU 3 1).2.2.1 ∈ tbG := mg 121 (by decide +kernel) (by decide +kernel)
theorem fl_X2_179 : Cond.fieldLink RX2 179 (cU 3 1).1 (cU 3 1).2.1 (cU 3 1).2.2.1 ∈ tbG := mg 122 (by decide +kernel) (by decide +kernel)
theorem fl_X6_208 : Cond.fieldLink RX6 208 (cU 3 1).1 (cU 3 1).2.1 (cU 3 1).2.2.1 ∈ tbG := mg 123 (by decide +kernel) (by decide +kernel)
theorem fl_X3_18 : Cond.fieldLink RX3 18 (cU 3 2).1 (cU 3 2).2.1 (cU 3 2).2.2.1 ∈ tbG := mg 124 (by decide +kernel) (by decide +kernel)
theorem fl_X2_130 : Cond.fieldLink RX2 130 (cU 3 2).1 (cU 3 2).2.1 (cU 3 2).2.2.1 ∈ tbG := mg 125 (by decide +kernel) (by decide +kernel)
theorem fl_X3_21 : Cond.fieldLink RX3 21 (cU 3 3).1 (cU 3 3).2.1 (cU 3 3).2.2.1 ∈ tbG := mg 126 (by decide +kernel) (by decide +kernel)
theorem fl_X2_145 : Cond.fieldLink RX2 145 (cU 3 3).1 (cU 3 3).2.1 (cU 3 3).2.2.1 ∈ tbG := mg 127 (by decide +kernel) (by decide +kernel)
theorem fl_X6_206 : Cond.fieldLink RX6 206 (cU 3 3).1 (cU 3 3).2.1 (cU 3 3).2.2.1 ∈ tbG := mg 128 (by decide +kernel) (by decide +kernel)
theorem fl_X3_24 : Cond.fieldLink RX3 24 (cU 3 4).1 (cU 3 4).2.1 (cU 3 4).2.2.1 ∈ tbG := mg 129 (by decide +kernel) (by decide +kernel)
theorem fl_X2_139 : Cond.fieldLink RX2 139 (cU 3 4).1 (cU 3 4).2.1 (cU 3 4).2.2.1 ∈ tbG := mg 130 (by decide +kernel) (by decide +kernel)
theorem fl_X6_197 : Cond.fieldLink RX6 197 (cU 3 4).1 (cU 3 4).2.1 (cU 3 4).2.2.1 ∈ tbG := mg 131 (by decide +kernel) (by decide +kernel)
theorem fl_X3_27 : Cond.fieldLink RX3 27 (cU 3 5).1 (cU 3 5).2.1 (cU 3 5).2.2.1 ∈ tbG := mg 132 (by decide +kernel) (by decide +kernel)
theorem fl_X2_112 : Cond.fieldLink RX2 112 (cU 3 5).1 (cU 3 5).2.1 (cU 3 5).2.2.1 ∈ tbG := mg 133 (by decide +kernel) (by decide +kernel)
theorem fl_X6_194 : Cond.fieldLink RX6 194 (cU 3 5).1 (cU 3 5).2.1 (cU 3 5).2.2.1 ∈ tbG := mg 134 (by decide +kernel) (by decide +kernel)
theorem fl_X3_30 : Cond.fieldLink RX3 30 (cU 3 6).1 (cU 3 6).2.1 (cU 3 6).2.2.1 ∈ tbG := mg 135 (by decide +kernel) (by decide +kernel)
theorem fl_X2_170 : Cond.fieldLink RX2 170 (cU 3 6).1 (cU 3 6).2.1 (cU 3 6).2.2.1 ∈ tbG := mg 136 (by decide +kernel) (by decide +kernel)
theorem fl_X3_33 : Cond.fieldLink RX3 33 (cU 3 7).1 (cU 3 7).2.1 (cU 3 7).2.2.1 ∈ tbG := mg 137 (by decide +kernel) (by decide +kernel)
theorem fl_X2_121 : Cond.fieldLink RX2 121 (cU 3 7).1 (cU 3 7).2.1 (cU 3 7).2.2.1 ∈ tbG := mg 138 (by decide +kernel) (by decide +kernel)
theorem fl_X2_12 : Cond.fieldLink RX2 12 (cU 2 0).1 (cU 2 0).2.1 (cU 2 0).2.2.1 ∈ tbG := mg 156 (by decide +kernel) (by decide +kernel)
theorem fl_X6_122 : Cond.fieldLink RX6 122 (cU 2 0).1 (cU 2 0).2.1 (cU 2 0).2.2.1 ∈ tbG := mg 157 (by decide +kernel) (by decide +kernel)
theorem fl_X2_21 : Cond.fieldLink RX2 21 (cU 2 1).1 (cU 2 1).2.1 (cU 2 1).2.2.1 ∈ tbG := mg 158 (by decide +kernel) (by decide +kernel)
theorem fl_X6_150 : Cond.fieldLink RX6 150 (cU 2 1).1 (cU 2 1).2.1 (cU 2 1).2.2.1 ∈ tbG := mg 159 (by decide +kernel) (by decide +kernel)
theorem fl_X2_28 : Cond.fieldLink RX2 28 (cU 2 2).1 (cU 2 2).2.1 (cU 2 2).2.2.1 ∈ tbG := mg 160 (by decide +kernel) (by decide +kernel)
theorem fl_X6_179 : Cond.fieldLink RX6 179 (cU 2 2).1 (cU 2 2).2.1 (cU 2 2).2.2.1 ∈ tbG := mg 161 (by decide +kernel) (by decide +kernel)
theorem fl_X2_32 : Cond.fieldLink RX2 32 (cU 2 3).1 (cU 2 3).2.1 (cU 2 3).2.2.1 ∈ tbG := mg 162 (by decide +kernel) (by decide +kernel)
theorem fl_X2_36 : Cond.fieldLink RX2 36 (cU 2 4).1 (cU 2 4).2.1 (cU 2 4).2.2.1 ∈ tbG := mg 163 (by decide +kernel) (by decide +kernel)
theorem fl_X6_169 : Cond.fieldLink RX6 169 (cU 2 4).1 (cU 2 4).2.1 (cU 2 4).2.2.1 ∈ tbG := mg 164 (by decide +kernel) (by decide +kernel)
theorem fl_X2_40 : Cond.fieldLink RX2 40 (cU 2 5).1 (cU 2 5).2.1 (cU 2 5).2.2.1 ∈ tbG := mg 165 (by decide +kernel) (by decide +kernel)
theorem fl_X6_200 : Cond.fieldLink RX6 200 (cU 2 5).1 (cU 2 5).2.1 (cU 2 5).2.2.1 ∈ tbG := mg 166 (by decide +kernel) (by decide +kernel)
theorem fl_X2_43 : Cond.fieldLink RX2 43 (cU 2 6).1 (cU 2 6).2.1 (cU 2 6).2.2.1 ∈ tbG := mg 167 (by decide +kernel) (by decide +kernel)
theorem kl_X6_29 : Cond.classLink RX6 29 (cR 0) ∈ tbG := mg 183 (by decide +kernel) (by decide +kernel)
theorem it_X0 : Cond.instantiable (cR 0) (cN 0) ∈ tbG := mg 184 (by decide +kernel) (by decide +kernel)
theorem ml_X6_31 : Cond.methodLink RX6 31 yX0_init ∈ tbG := mg 185 (by decide +kernel) (by decide +kernel)
theorem ml_X0_3 : Cond.methodLink RX0 3 objectInit ∈ tbG := mg 188 (by decide +kernel) (by decide +kernel)
theorem kl_X0_9 : Cond.classLink RX0 9 (cR 2) ∈ tbG := mg 189 (by decide +kernel) (by decide +kernel)
theorem ml_X0_21 : Cond.methodLink RX0 21 yX2_init ∈ tbG := mg 191 (by decide +kernel) (by decide +kernel)
theorem fl_X0_11 : Cond.fieldLink RX0 11 (cU 0 0).1 (cU 0 0).2.1 (cU 0 0).2.2.1 ∈ tbG := mg 192 (by decide +kernel) (by decide +kernel)
theorem fl_X0_17 : Cond.fieldLink RX0 17 (cU 0 1).1 (cU 0 1).2.1 (cU 0 1).2.2.1 ∈ tbG := mg 193 (by decide +kernel) (by decide +kernel)
theorem kl_X6_36 : Cond.classLink RX6 36 (cR 4) ∈ tbG := mg 199 (by decide +kernel) (by decide +kernel)
theorem it_X4 : Cond.instantiable (cR 4) (cN 4) ∈ tbG := mg 200 (by decide +kernel) (by decide +kernel)
theorem nl_X6_38 : (RX6, 38, yX4_init, "PocketCards") ∈ nsL := by decide +kernel
theorem ml_X4_3 : Cond.methodLink RX4 3 objectInit ∈ tbG := mg 204 (by decide +kernel) (by decide +kernel)
theorem fl_X4_9 : Cond.fieldLink RX4 9 (cU 4 0).1 (cU 4 0).2.1 (cU 4 0).2.2.1 ∈ tbG := mg 205 (by decide +kernel) (by decide +kernel)
theorem fl_X4_15 : Cond.fieldLink RX4 15 (cU 4 1).1 (cU 4 1).2.1 (cU 4 1).2.2.1 ∈ tbG := mg 206 (by decide +kernel) (by decide +kernel)
theorem fl_X4_19 : Cond.fieldLink RX4 19 (cU 4 2).1 (cU 4 2).2.1 (cU 4 2).2.2.1 ∈ tbG := mg 207 (by decide +kernel) (by decide +kernel)
theorem fl_X4_22 : Cond.fieldLink RX4 22 (cU 4 3).1 (cU 4 3).2.1 (cU 4 3).2.2.1 ∈ tbG := mg 208 (by decide +kernel) (by decide +kernel)
theorem fl_X4_26 : Cond.fieldLink RX4 26 (cU 4 4).1 (cU 4 4).2.1 (cU 4 4).2.2.1 ∈ tbG := mg 209 (by decide +kernel) (by decide +kernel)
theorem fl_X4_29 : Cond.fieldLink RX4 29 (cU 4 5).1 (cU 4 5).2.1 (cU 4 5).2.2.1 ∈ tbG := mg 210 (by decide +kernel) (by decide +kernel)
theorem fl_X4_32 : Cond.fieldLink RX4 32 (cU 4 6).1 (cU 4 6).2.1 (cU 4 6).2.2.1 ∈ tbG := mg 211 (by decide +kernel) (by decide +kernel)
theorem ac_char : Cond.arrayClass .char ∈ tbG := mg 227 (by decide +kernel) (by decide +kernel)
theorem fl_X6_10 : Cond.fieldLink RX6 10 (cU 6 0).1 (cU 6 0).2.1 (cU 6 0).2.2.1 ∈ tbG := mg 228 (by decide +kernel) (by decide +kernel)
theorem fl_X6_16 : Cond.fieldLink RX6 16 (cU 6 1).1 (cU 6 1).2.1 (cU 6 1).2.2.1 ∈ tbG := mg 229 (by decide +kernel) (by decide +kernel)
theorem fl_X6_19 : Cond.fieldLink RX6 19 (cU 6 2).1 (cU 6 2).2.1 (cU 6 2).2.2.1 ∈ tbG := mg 230 (by decide +kernel) (by decide +kernel)
theorem fl_X6_22 : Cond.fieldLink RX6 22 (cU 6 3).1 (cU 6 3).2.1 (cU 6 3).2.2.1 ∈ tbG := mg 231 (by decide +kernel) (by decide +kernel)
theorem fl_X6_25 : Cond.fieldLink RX6 25 (cU 6 4).1 (cU 6 4).2.1 (cU 6 4).2.2.1 ∈ tbG := mg 232 (by decide +kernel) (by decide +kernel)
theorem fl_X6_32 : Cond.fieldLink RX6 32 (cU 6 5).1 (cU 6 5).2.1 (cU 6 5).2.2.1 ∈ tbG := mg 233 (by decide +kernel) (by decide +kernel)
theorem fl_X6_39 : Cond.fieldLink RX6 39 (cU 6 6).1 (cU 6 6).2.1 (cU 6 6).2.2.1 ∈ tbG := mg 234 (by decide +kernel) (by decide +kernel)
theorem ml_L_13 : Cond.methodLink RL 13 yX6_put ∈ tbG := mg 250 (by decide +kernel) (by decide +kernel)
theorem ml_X6_43 : Cond.methodLink RX6 43 yX2_copyFrom ∈ tbG := mg 254 (by decide +kernel) (by decide +kernel)
theorem ml_X2_46 : Cond.methodLink RX2 46 yX1_copyFrom ∈ tbG := mg 258 (by decide +kernel) (by decide +kernel)
theorem ml_X2_50 : Cond.methodLink RX2 50 yX5_copyFrom ∈ tbG := mg 262 (by decide +kernel) (by decide +kernel)
theorem ml_X5_19 : Cond.methodLink RX5 19 arraycopyName ∈ tbG := mg 266 (by decide +kernel) (by decide +kernel)
theorem ml_X2_53 : Cond.methodLink RX2 53 yX3_copyFrom ∈ tbG := mg 269 (by decide +kernel) (by decide +kernel)
theorem ml_X2_56 : Cond.methodLink RX2 56 arraycopyName ∈ tbG := mg 273 (by decide +kernel) (by decide +kernel)
theorem ml_X6_47 : Cond.methodLink RX6 47 yX2_putCard ∈ tbG := mg 274 (by decide +kernel) (by decide +kernel)
theorem ml_X2_62 : Cond.methodLink RX2 62 yX1_placeOf ∈ tbG := mg 278 (by decide +kernel) (by decide +kernel)
theorem ml_X2_66 : Cond.methodLink RX2 66 yX1_cards ∈ tbG := mg 282 (by decide +kernel) (by decide +kernel)
theorem ml_X2_70 : Cond.methodLink RX2 70 yX1_insert ∈ tbG := mg 286 (by decide +kernel) (by decide +kernel)
theorem ml_X1_55 : Cond.methodLink RX1 55 yX1_moveCard ∈ tbG := mg 290 (by decide +kernel) (by decide +kernel)
theorem ml_X6_51 : Cond.methodLink RX6 51 yX6_recorded ∈ tbG := mg 294 (by decide +kernel) (by decide +kernel)
theorem ml_X6_211 : Cond.methodLink RX6 211 yX0_add ∈ tbG := mg 298 (by decide +kernel) (by decide +kernel)
theorem ml_X0_22 : Cond.methodLink RX0 22 yX0_dropOldest ∈ tbG := mg 302 (by decide +kernel) (by decide +kernel)
theorem ml_X0_25 : Cond.methodLink RX0 25 yX2_copyFrom ∈ tbG := mg 306 (by decide +kernel) (by decide +kernel)
theorem ml_L_18 : Cond.methodLink RL 18 yX6_take ∈ tbG := mg 307 (by decide +kernel) (by decide +kernel)
theorem ml_X6_54 : Cond.methodLink RX6 54 yX2_takeCard ∈ tbG := mg 311 (by decide +kernel) (by decide +kernel)
theorem ml_X2_74 : Cond.methodLink RX2 74 yX1_removeAt ∈ tbG := mg 315 (by decide +kernel) (by decide +kernel)
theorem ml_X1_35 : Cond.methodLink RX1 35 yX1_isCard ∈ tbG := mg 319 (by decide +kernel) (by decide +kernel)
theorem ml_L_22 : Cond.methodLink RL 22 yX6_sleep ∈ tbG := mg 323 (by decide +kernel) (by decide +kernel)
theorem ml_X6_57 : Cond.methodLink RX6 57 yX2_sleepCard ∈ tbG := mg 327 (by decide +kernel) (by decide +kernel)
theorem ml_X2_77 : Cond.methodLink RX2 77 yX1_isAwake ∈ tbG := mg 331 (by decide +kernel) (by decide +kernel)
theorem ml_X2_81 : Cond.methodLink RX2 81 yX1_sleepAt ∈ tbG := mg 335 (by decide +kernel) (by decide +kernel)
theorem ml_X2_84 : Cond.methodLink RX2 84 yX1_awakeCards ∈ tbG := mg 339 (by decide +kernel) (by decide +kernel)
theorem ml_X1_49 : Cond.methodLink RX1 49 yX1_awakeWith ∈ tbG := mg 343 (by decide +kernel) (by decide +kernel)
theorem nl_X1_52 : (RX1, 52, yX6_firstBits, "PocketCards") ∈ nsL := by decide +kernel
theorem ml_L_26 : Cond.methodLink RL 26 yX6_wakeAll ∈ tbG := mg 350 (by decide +kernel) (by decide +kernel)
theorem ml_X6_60 : Cond.methodLink RX6 60 yX2_wakeCards ∈ tbG := mg 354 (by decide +kernel) (by decide +kernel)
theorem ml_X2_87 : Cond.methodLink RX2 87 yX1_wakeEach ∈ tbG := mg 358 (by decide +kernel) (by decide +kernel)
theorem ml_L_31 : Cond.methodLink RL 31 yX6_leave ∈ tbG := mg 362 (by decide +kernel) (by decide +kernel)
theorem ml_X6_64 : Cond.methodLink RX6 64 yX2_leaveBehind ∈ tbG := mg 366 (by decide +kernel) (by decide +kernel)
theorem ml_X2_90 : Cond.methodLink RX2 90 yX1_asksToGo ∈ tbG := mg 370 (by decide +kernel) (by decide +kernel)
theorem ml_X2_93 : Cond.methodLink RX2 93 yX1_leaveAt ∈ tbG := mg 374 (by decide +kernel) (by decide +kernel)
theorem ml_L_36 : Cond.methodLink RL 36 yX6_set ∈ tbG := mg 378 (by decide +kernel) (by decide +kernel)
theorem ml_X6_68 : Cond.methodLink RX6 68 yX2_setTo ∈ tbG := mg 382 (by decide +kernel) (by decide +kernel)
theorem ml_L_40 : Cond.methodLink RL 40 yX6_shuffle ∈ tbG := mg 386 (by decide +kernel) (by decide +kernel)
theorem ml_X6_71 : Cond.methodLink RX6 71 yX2_shuffleTo ∈ tbG := mg 390 (by decide +kernel) (by decide +kernel)
theorem ml_L_44 : Cond.methodLink RL 44 yX6_forget ∈ tbG := mg 394 (by decide +kernel) (by decide +kernel)
theorem ml_X6_74 : Cond.methodLink RX6 74 yX2_forgetTold ∈ tbG := mg 398 (by decide +kernel) (by decide +kernel)
theorem ml_X2_97 : Cond.methodLink RX2 97 yX5_names ∈ tbG := mg 402 (by decide +kernel) (by decide +kernel)
theorem ml_X2_100 : Cond.methodLink RX2 100 yX5_empty ∈ tbG := mg 406 (by decide +kernel) (by decide +kernel)
theorem ml_L_48 : Cond.methodLink RL 48 yX6_ask ∈ tbG := mg 410 (by decide +kernel) (by decide +kernel)
theorem ml_X6_77 : Cond.methodLink RX6 77 yX6_isBeginning ∈ tbG := mg 414 (by decide +kernel) (by decide +kernel)
theorem ml_X6_81 : Cond.methodLink RX6 81 yX2_askFor ∈ tbG := mg 417 (by decide +kernel) (by decide +kernel)
theorem ml_X2_103 : Cond.methodLink RX2 103 yX1_letAnswer ∈ tbG := mg 421 (by decide +kernel) (by decide +kernel)
theorem ml_X2_106 : Cond.methodLink RX2 106 yX2_hear ∈ tbG := mg 425 (by decide +kernel) (by decide +kernel)
theorem ml_X2_127 : Cond.methodLink RX2 127 yX1_firstAnswering ∈ tbG := mg 429 (by decide +kernel) (by decide +kernel)
theorem ml_X2_133 : Cond.methodLink RX2 133 yX1_nameAt ∈ tbG := mg 433 (by decide +kernel) (by decide +kernel)
theorem ml_X2_136 : Cond.methodLink RX2 136 yX1_differencesFrom ∈ tbG := mg 437 (by decide +kernel) (by decide +kernel)
theorem nl_X2_142 : (RX2, 142, yX6_firstOne, "PocketCards") ∈ nsL := by decide +kernel
theorem ml_X2_147 : Cond.methodLink RX2 147 yX5_add ∈ tbG := mg 444 (by decide +kernel) (by decide +kernel)
theorem ml_X2_150 : Cond.methodLink RX2 150 yX1_tellAt ∈ tbG := mg 448 (by decide +kernel) (by decide +kernel)
theorem ml_X2_115 : Cond.methodLink RX2 115 Lib.Math.max.name ∈ tbG := mg 452 (by decide +kernel) (by decide +kernel)
theorem ml_X2_124 : Cond.methodLink RX2 124 yX1_passAsk ∈ tbG := mg 455 (by decide +kernel) (by decide +kernel)
theorem ml_L_52 : Cond.methodLink RL 52 yX6_walk ∈ tbG := mg 459 (by decide +kernel) (by decide +kernel)
theorem ml_X6_84 : Cond.methodLink RX6 84 yX2_makeWalk ∈ tbG := mg 463 (by decide +kernel) (by decide +kernel)
theorem ml_X2_153 : Cond.methodLink RX2 153 yX2_walkFrom ∈ tbG := mg 467 (by decide +kernel) (by decide +kernel)
theorem nl_X2_157 : (RX2, 157, yX6_isBeginning, "PocketCards") ∈ nsL := by decide +kernel
theorem ml_X2_161 : Cond.methodLink RX2 161 yX2_askFor ∈ tbG := mg 471 (by decide +kernel) (by decide +kernel)
theorem nl_X2_164 : (RX2, 164, yX6_firstBits, "PocketCards") ∈ nsL := by decide +kernel
theorem ml_L_57 : Cond.methodLink RL 57 yX6_frame ∈ tbG := mg 473 (by decide +kernel) (by decide +kernel)
theorem ml_X6_88 : Cond.methodLink RX6 88 yX2_makeFrame ∈ tbG := mg 477 (by decide +kernel) (by decide +kernel)
theorem nl_X2_167 : (RX2, 167, yX6_isFrameSize, "PocketCards") ∈ nsL := by decide +kernel
theorem ml_X2_173 : Cond.methodLink RX2 173 yX2_drawSlots ∈ tbG := mg 484 (by decide +kernel) (by decide +kernel)
theorem ml_X2_182 : Cond.methodLink RX2 182 yX2_draw ∈ tbG := mg 488 (by decide +kernel) (by decide +kernel)
theorem co_X2_188 : Cond.constant RX2 188 (Int32.ofInt 1103515245) ∈ tbG := mg 492 (by decide +kernel) (by decide +kernel)
theorem co_X2_189 : Cond.constant RX2 189 (Int32.ofInt 2147483647) ∈ tbG := mg 493 (by decide +kernel) (by decide +kernel)
theorem co_X2_190 : Cond.constant RX2 190 (Int32.ofInt 65536) ∈ tbG := mg 494 (by decide +kernel) (by decide +kernel)
theorem ml_X2_185 : Cond.methodLink RX2 185 yX1_slotAt ∈ tbG := mg 495 (by decide +kernel) (by decide +kernel)
theorem ml_X2_176 : Cond.methodLink RX2 176 yX1_letAnswerIn ∈ tbG := mg 499 (by decide +kernel) (by decide +kernel)
theorem ml_L_61 : Cond.methodLink RL 61 yX6_rounds ∈ tbG := mg 503 (by decide +kernel) (by decide +kernel)
theorem ml_X6_91 : Cond.methodLink RX6 91 yX2_makeRounds ∈ tbG := mg 507 (by decide +kernel) (by decide +kernel)
theorem ml_X2_191 : Cond.methodLink RX2 191 yX2_makeFrame ∈ tbG := mg 511 (by decide +kernel) (by decide +kernel)
theorem ml_X2_194 : Cond.methodLink RX2 194 yX2_nextSize ∈ tbG := mg 512 (by decide +kernel) (by decide +kernel)
theorem ml_X2_198 : Cond.methodLink RX2 198 Lib.Math.min.name ∈ tbG := mg 516 (by decide +kernel) (by decide +kernel)
theorem ml_L_65 : Cond.methodLink RL 65 yX6_type ∈ tbG := mg 519 (by decide +kernel) (by decide +kernel)
theorem ml_X6_94 : Cond.methodLink RX6 94 yX4_append ∈ tbG := mg 523 (by decide +kernel) (by decide +kernel)
theorem ml_L_70 : Cond.methodLink RL 70 yX6_clearText ∈ tbG := mg 527 (by decide +kernel) (by decide +kernel)
theorem ml_X6_98 : Cond.methodLink RX6 98 yX4_empty ∈ tbG := mg 531 (by decide +kernel) (by decide +kernel)
theorem ml_L_74 : Cond.methodLink RL 74 yX6_perform ∈ tbG := mg 535 (by decide +kernel) (by decide +kernel)
theorem ml_X6_101 : Cond.methodLink RX6 101 yX4_readOrders ∈ tbG := mg 539 (by decide +kernel) (by decide +kernel)
theorem ml_X4_35 : Cond.methodLink RX4 35 yX4_readOrder ∈ tbG := mg 543 (by decide +kernel) (by decide +kernel)
theorem ml_X4_39 : Cond.methodLink RX4 39 yX4_characterAt ∈ tbG := mg 547 (by decide +kernel) (by decide +kernel)
theorem ml_X4_43 : Cond.methodLink RX4 43 yX4_readNumber ∈ tbG := mg 551 (by decide +kernel) (by decide +kernel)
theorem ml_X4_47 : Cond.methodLink RX4 47 yX4_digitAt ∈ tbG := mg 555 (by decide +kernel) (by decide +kernel)
theorem ml_X6_104 : Cond.methodLink RX6 104 yX4_orders ∈ tbG := mg 559 (by decide +kernel) (by decide +kernel)
theorem ml_X6_107 : Cond.methodLink RX6 107 yX4_kindAt ∈ tbG := mg 563 (by decide +kernel) (by decide +kernel)
theorem ml_X6_111 : Cond.methodLink RX6 111 yX4_numberAt ∈ tbG := mg 567 (by decide +kernel) (by decide +kernel)
theorem ml_X6_114 : Cond.methodLink RX6 114 yX2_carryOut ∈ tbG := mg 571 (by decide +kernel) (by decide +kernel)
theorem ml_X2_201 : Cond.methodLink RX2 201 yX2_putCard ∈ tbG := mg 575 (by decide +kernel) (by decide +kernel)
theorem ml_X2_204 : Cond.methodLink RX2 204 yX2_takeCard ∈ tbG := mg 576 (by decide +kernel) (by decide +kernel)
theorem ml_X2_207 : Cond.methodLink RX2 207 yX2_sleepCard ∈ tbG := mg 577 (by decide +kernel) (by decide +kernel)
theorem ml_X2_210 : Cond.methodLink RX2 210 yX2_wakeCards ∈ tbG := mg 578 (by decide +kernel) (by decide +kernel)
theorem ml_X2_213 : Cond.methodLink RX2 213 yX2_makeWalk ∈ tbG := mg 579 (by decide +kernel) (by decide +kernel)
theorem ml_L_78 : Cond.methodLink RL 78 yX6_undo ∈ tbG := mg 580 (by decide +kernel) (by decide +kernel)
theorem ml_X6_118 : Cond.methodLink RX6 118 yX0_backTo ∈ tbG := mg 584 (by decide +kernel) (by decide +kernel)
theorem ml_L_82 : Cond.methodLink RL 82 yX6_keep ∈ tbG := mg 588 (by decide +kernel) (by decide +kernel)
theorem ml_X6_126 : Cond.methodLink RX6 126 yX1_cards ∈ tbG := mg 592 (by decide +kernel) (by decide +kernel)
theorem ml_L_86 : Cond.methodLink RL 86 yX6_restore ∈ tbG := mg 593 (by decide +kernel) (by decide +kernel)
theorem ml_L_90 : Cond.methodLink RL 90 yX6_card ∈ tbG := mg 597 (by decide +kernel) (by decide +kernel)
theorem ml_X6_131 : Cond.methodLink RX6 131 yX1_nameAt ∈ tbG := mg 601 (by decide +kernel) (by decide +kernel)
theorem ml_L_94 : Cond.methodLink RL 94 yX6_ofCard ∈ tbG := mg 602 (by decide +kernel) (by decide +kernel)
theorem ml_X6_134 : Cond.methodLink RX6 134 yX1_placeOf ∈ tbG := mg 606 (by decide +kernel) (by decide +kernel)
theorem ml_X6_137 : Cond.methodLink RX6 137 yX1_isAwake ∈ tbG := mg 607 (by decide +kernel) (by decide +kernel)
theorem ml_X6_141 : Cond.methodLink RX6 141 yX1_asksToGo ∈ tbG := mg 608 (by decide +kernel) (by decide +kernel)
theorem ml_X6_144 : Cond.methodLink RX6 144 yX1_tellings ∈ tbG := mg 609 (by decide +kernel) (by decide +kernel)
theorem ml_X6_147 : Cond.methodLink RX6 147 yX1_sharedBits ∈ tbG := mg 613 (by decide +kernel) (by decide +kernel)
theorem nl_X1_39 : (RX1, 39, yX6_firstOne, "PocketCards") ∈ nsL := by decide +kernel
theorem ml_X1_43 : Cond.methodLink RX1 43 Lib.Math.max.name ∈ tbG := mg 618 (by decide +kernel) (by decide +kernel)
theorem ml_L_98 : Cond.methodLink RL 98 yX6_told ∈ tbG := mg 619 (by decide +kernel) (by decide +kernel)
theorem ml_X6_154 : Cond.methodLink RX6 154 yX5_names ∈ tbG := mg 623 (by decide +kernel) (by decide +kernel)
theorem ml_X6_159 : Cond.methodLink RX6 159 yX5_nameAt ∈ tbG := mg 624 (by decide +kernel) (by decide +kernel)
theorem ml_L_102 : Cond.methodLink RL 102 yX6_total ∈ tbG := mg 628 (by decide +kernel) (by decide +kernel)
theorem ml_X6_160 : Cond.methodLink RX6 160 yX1_awakeCards ∈ tbG := mg 632 (by decide +kernel) (by decide +kernel)
theorem ml_X6_163 : Cond.methodLink RX6 163 yX1_leavingCards ∈ tbG := mg 633 (by decide +kernel) (by decide +kernel)
theorem ml_X6_166 : Cond.methodLink RX6 166 yX2_valueOf ∈ tbG := mg 637 (by decide +kernel) (by decide +kernel)
theorem ml_X6_173 : Cond.methodLink RX6 173 yX0_states ∈ tbG := mg 641 (by decide +kernel) (by decide +kernel)
theorem ml_X6_176 : Cond.methodLink RX6 176 yX4_length ∈ tbG := mg 645 (by decide +kernel) (by decide +kernel)
theorem ml_X6_183 : Cond.methodLink RX6 183 yX3_numberOf ∈ tbG := mg 649 (by decide +kernel) (by decide +kernel)
theorem ml_L_106 : Cond.methodLink RL 106 yX6_count ∈ tbG := mg 653 (by decide +kernel) (by decide +kernel)
theorem ml_X6_188 : Cond.methodLink RX6 188 yX1_awakeWith ∈ tbG := mg 657 (by decide +kernel) (by decide +kernel)
theorem ml_L_110 : Cond.methodLink RL 110 yX6_walkTakes ∈ tbG := mg 658 (by decide +kernel) (by decide +kernel)
theorem ml_L_115 : Cond.methodLink RL 115 yX6_roundsTake ∈ tbG := mg 662 (by decide +kernel) (by decide +kernel)
theorem ml_X6_203 : Cond.methodLink RX6 203 yX6_isFrameSize ∈ tbG := mg 666 (by decide +kernel) (by decide +kernel)
theorem ml_L_119 : Cond.methodLink RL 119 yX6_bestFrame ∈ tbG := mg 667 (by decide +kernel) (by decide +kernel)
theorem ml_L_123 : Cond.methodLink RL 123 yX6_thickest ∈ tbG := mg 671 (by decide +kernel) (by decide +kernel)
theorem kl_L_10 : Cond.classLink RL 10 (cR 7) ∈ tbG := mg 675 (by decide +kernel) (by decide +kernel)
theorem it_X7 : Cond.instantiable (cR 7) (cN 7) ∈ tbG := mg 676 (by decide +kernel) (by decide +kernel)
theorem ml_L_12 : Cond.methodLink RL 12 yX7_init ∈ tbG := mg 677 (by decide +kernel) (by decide +kernel)
theorem ml_X7_1 : Cond.methodLink RX7 1 objectInit ∈ tbG := mg 680 (by decide +kernel) (by decide +kernel)
theorem fl_X7_7 : Cond.fieldLink RX7 7 (cU 7 0).1 (cU 7 0).2.1 (cU 7 0).2.2.1 ∈ tbG := mg 681 (by decide +kernel) (by decide +kernel)
theorem fl_X7_13 : Cond.fieldLink RX7 13 (cU 7 1).1 (cU 7 1).2.1 (cU 7 1).2.2.1 ∈ tbG := mg 682 (by decide +kernel) (by decide +kernel)
theorem fl_X7_16 : Cond.fieldLink RX7 16 (cU 7 2).1 (cU 7 2).2.1 (cU 7 2).2.2.1 ∈ tbG := mg 683 (by decide +kernel) (by decide +kernel)
theorem fl_X7_44 : Cond.fieldLink RX7 44 (cU 7 3).1 (cU 7 3).2.1 (cU 7 3).2.2.1 ∈ tbG := mg 684 (by decide +kernel) (by decide +kernel)
theorem fl_X7_19 : Cond.fieldLink RX7 19 (cU 7 4).1 (cU 7 4).2.1 (cU 7 4).2.2.1 ∈ tbG := mg 685 (by decide +kernel) (by decide +kernel)
theorem fl_X7_56 : Cond.fieldLink RX7 56 (cU 7 5).1 (cU 7 5).2.1 (cU 7 5).2.2.1 ∈ tbG := mg 686 (by decide +kernel) (by decide +kernel)
theorem fl_X7_22 : Cond.fieldLink RX7 22 (cU 7 6).1 (cU 7 6).2.1 (cU 7 6).2.2.1 ∈ tbG := mg 687 (by decide +kernel) (by decide +kernel)
theorem fl_X7_163 : Cond.fieldLink RX7 163 (cU 7 7).1 (cU 7 7).2.1 (cU 7 7).2.2.1 ∈ tbG := mg 688 (by decide +kernel) (by decide +kernel)
theorem fl_X7_92 : Cond.fieldLink RX7 92 (cU 7 8).1 (cU 7 8).2.1 (cU 7 8).2.2.1 ∈ tbG := mg 689 (by decide +kernel) (by decide +kernel)
theorem fl_X7_95 : Cond.fieldLink RX7 95 (cU 7 9).1 (cU 7 9).2.1 (cU 7 9).2.2.1 ∈ tbG := mg 690 (by decide +kernel) (by decide +kernel)
theorem fl_X7_98 : Cond.fieldLink RX7 98 (cU 7 10).1 (cU 7 10).2.1 (cU 7 10).2.2.1 ∈ tbG := mg 691 (by decide +kernel) (by decide +kernel)
theorem fl_X7_101 : Cond.fieldLink RX7 101 (cU 7 11).1 (cU 7 11).2.1 (cU 7 11).2.2.1 ∈ tbG := mg 692 (by decide +kernel) (by decide +kernel)
theorem fl_X7_25 : Cond.fieldLink RX7 25 (cU 7 12).1 (cU 7 12).2.1 (cU 7 12).2.2.1 ∈ tbG := mg 693 (by decide +kernel) (by decide +kernel)
theorem fl_X7_132 : Cond.fieldLink RX7 132 (cU 7 13).1 (cU 7 13).2.1 (cU 7 13).2.2.1 ∈ tbG := mg 694 (by decide +kernel) (by decide +kernel)
theorem fl_X7_28 : Cond.fieldLink RX7 28 (cU 7 14).1 (cU 7 14).2.1 (cU 7 14).2.2.1 ∈ tbG := mg 695 (by decide +kernel) (by decide +kernel)
theorem fl_X7_31 : Cond.fieldLink RX7 31 (cU 7 15).1 (cU 7 15).2.1 (cU 7 15).2.2.1 ∈ tbG := mg 696 (by decide +kernel) (by decide +kernel)
theorem fl_X7_34 : Cond.fieldLink RX7 34 (cU 7 16).1 (cU 7 16).2.1 (cU 7 16).2.2.1 ∈ tbG := mg 697 (by decide +kernel) (by decide +kernel)
theorem fl_X7_37 : Cond.fieldLink RX7 37 (cU 7 17).1 (cU 7 17).2.1 (cU 7 17).2.2.1 ∈ tbG := mg 698 (by decide +kernel) (by decide +kernel)
theorem fl_X7_175 : Cond.fieldLink RX7 175 (cU 7 18).1 (cU 7 18).2.1 (cU 7 18).2.2.1 ∈ tbG := mg 699 (by decide +kernel) (by decide +kernel)
theorem fl_X7_166 : Cond.fieldLink RX7 166 (cU 7 19).1 (cU 7 19).2.1 (cU 7 19).2.2.1 ∈ tbG := mg 700 (by decide +kernel) (by decide +kernel)
theorem ml_L_81 : Cond.methodLink RL 81 yX7_undo ∈ tbG := mg 742 (by decide +kernel) (by decide +kernel)
theorem ml_X7_48 : Cond.methodLink RX7 48 yX7_copyState ∈ tbG := mg 746 (by decide +kernel) (by decide +kernel)
theorem ml_L_85 : Cond.methodLink RL 85 yX7_keep ∈ tbG := mg 749 (by decide +kernel) (by decide +kernel)
theorem ml_L_89 : Cond.methodLink RL 89 yX7_restore ∈ tbG := mg 753 (by decide +kernel) (by decide +kernel)
theorem ml_X7_60 : Cond.methodLink RX7 60 yX7_record ∈ tbG := mg 757 (by decide +kernel) (by decide +kernel)
theorem ml_X7_52 : Cond.methodLink RX7 52 yX7_recordRow ∈ tbG := mg 761 (by decide +kernel) (by decide +kernel)
theorem ml_L_17 : Cond.methodLink RL 17 yX7_put ∈ tbG := mg 765 (by decide +kernel) (by decide +kernel)
theorem ml_X7_75 : Cond.methodLink RX7 75 yX7_whyNotPut ∈ tbG := mg 769 (by decide +kernel) (by decide +kernel)
theorem ml_X7_63 : Cond.methodLink RX7 63 yX7_in ∈ tbG := mg 773 (by decide +kernel) (by decide +kernel)
theorem ml_X7_67 : Cond.methodLink RX7 67 yX7_cardWith ∈ tbG := mg 776 (by decide +kernel) (by decide +kernel)
theorem ml_X7_40 : Cond.methodLink RX7 40 yX7_of ∈ tbG := mg 780 (by decide +kernel) (by decide +kernel)
theorem ml_X7_78 : Cond.methodLink RX7 78 yX7_putNow ∈ tbG := mg 784 (by decide +kernel) (by decide +kernel)
theorem ml_X7_71 : Cond.methodLink RX7 71 yX7_lay ∈ tbG := mg 788 (by decide +kernel) (by decide +kernel)
theorem ml_L_21 : Cond.methodLink RL 21 yX7_take ∈ tbG := mg 792 (by decide +kernel) (by decide +kernel)
theorem ml_X7_82 : Cond.methodLink RX7 82 yX7_takeNow ∈ tbG := mg 796 (by decide +kernel) (by decide +kernel)
theorem ml_L_25 : Cond.methodLink RL 25 yX7_sleep ∈ tbG := mg 800 (by decide +kernel) (by decide +kernel)
theorem ml_X7_85 : Cond.methodLink RX7 85 yX7_awake ∈ tbG := mg 804 (by decide +kernel) (by decide +kernel)
theorem ml_L_30 : Cond.methodLink RL 30 yX7_wakeAll ∈ tbG := mg 808 (by decide +kernel) (by decide +kernel)
theorem ml_X7_89 : Cond.methodLink RX7 89 yX7_wakeNow ∈ tbG := mg 812 (by decide +kernel) (by decide +kernel)
theorem ml_L_35 : Cond.methodLink RL 35 yX7_leave ∈ tbG := mg 816 (by decide +kernel) (by decide +kernel)
theorem ml_L_39 : Cond.methodLink RL 39 yX7_set ∈ tbG := mg 820 (by decide +kernel) (by decide +kernel)
theorem ml_L_43 : Cond.methodLink RL 43 yX7_shuffle ∈ tbG := mg 824 (by decide +kernel) (by decide +kernel)
theorem ml_L_47 : Cond.methodLink RL 47 yX7_forget ∈ tbG := mg 828 (by decide +kernel) (by decide +kernel)
theorem ml_L_51 : Cond.methodLink RL 51 yX7_ask ∈ tbG := mg 832 (by decide +kernel) (by decide +kernel)
theorem ml_X7_125 : Cond.methodLink RX7 125 yX7_isBeginning ∈ tbG := mg 836 (by decide +kernel) (by decide +kernel)
theorem ml_X7_129 : Cond.methodLink RX7 129 yX7_askNow ∈ tbG := mg 839 (by decide +kernel) (by decide +kernel)
theorem ml_X7_113 : Cond.methodLink RX7 113 yX7_noAnswer ∈ tbG := mg 843 (by decide +kernel) (by decide +kernel)
theorem ml_X7_116 : Cond.methodLink RX7 116 yX7_begins ∈ tbG := mg 847 (by decide +kernel) (by decide +kernel)
theorem ml_X7_119 : Cond.methodLink RX7 119 yX7_answers ∈ tbG := mg 850 (by decide +kernel) (by decide +kernel)
theorem ml_X7_122 : Cond.methodLink RX7 122 yX7_answer ∈ tbG := mg 854 (by decide +kernel) (by decide +kernel)
theorem ml_X7_104 : Cond.methodLink RX7 104 yX7_clashBit ∈ tbG := mg 858 (by decide +kernel) (by decide +kernel)
theorem ml_X7_107 : Cond.methodLink RX7 107 yX7_tell ∈ tbG := mg 862 (by decide +kernel) (by decide +kernel)
theorem ml_X7_110 : Cond.methodLink RX7 110 yX7_letGo ∈ tbG := mg 866 (by decide +kernel) (by decide +kernel)
theorem ml_L_56 : Cond.methodLink RL 56 yX7_walk ∈ tbG := mg 870 (by decide +kernel) (by decide +kernel)
theorem ml_X7_135 : Cond.methodLink RX7 135 yX7_walkNow ∈ tbG := mg 874 (by decide +kernel) (by decide +kernel)
theorem ml_L_60 : Cond.methodLink RL 60 yX7_frame ∈ tbG := mg 878 (by decide +kernel) (by decide +kernel)
theorem ml_X7_149 : Cond.methodLink RX7 149 yX7_isSlots ∈ tbG := mg 882 (by decide +kernel) (by decide +kernel)
theorem ml_X7_153 : Cond.methodLink RX7 153 yX7_frameNow ∈ tbG := mg 885 (by decide +kernel) (by decide +kernel)
theorem ml_X7_146 : Cond.methodLink RX7 146 yX7_draw ∈ tbG := mg 889 (by decide +kernel) (by decide +kernel)
theorem co_X7_145 : Cond.constant RX7 145 (Int32.ofInt 65536) ∈ tbG := mg 896 (by decide +kernel) (by decide +kernel)
theorem ml_L_64 : Cond.methodLink RL 64 yX7_rounds ∈ tbG := mg 897 (by decide +kernel) (by decide +kernel)
theorem ml_X7_160 : Cond.methodLink RX7 160 yX7_roundsNow ∈ tbG := mg 901 (by decide +kernel) (by decide +kernel)
theorem ml_X7_156 : Cond.methodLink RX7 156 yX7_nextSize ∈ tbG := mg 905 (by decide +kernel) (by decide +kernel)
theorem ml_L_69 : Cond.methodLink RL 69 yX7_type ∈ tbG := mg 909 (by decide +kernel) (by decide +kernel)
theorem ml_L_73 : Cond.methodLink RL 73 yX7_clearText ∈ tbG := mg 913 (by decide +kernel) (by decide +kernel)
theorem ml_L_77 : Cond.methodLink RL 77 yX7_perform ∈ tbG := mg 917 (by decide +kernel) (by decide +kernel)
theorem ml_X7_185 : Cond.methodLink RX7 185 yX7_readText ∈ tbG := mg 921 (by decide +kernel) (by decide +kernel)
theorem ml_X7_178 : Cond.methodLink RX7 178 yX7_readOrder ∈ tbG := mg 925 (by decide +kernel) (by decide +kernel)
theorem ml_X7_172 : Cond.methodLink RX7 172 yX7_number ∈ tbG := mg 929 (by decide +kernel) (by decide +kernel)
theorem ml_X7_169 : Cond.methodLink RX7 169 yX7_sees ∈ tbG := mg 933 (by decide +kernel) (by decide +kernel)
theorem ml_X7_182 : Cond.methodLink RX7 182 yX7_takes ∈ tbG := mg 937 (by decide +kernel) (by decide +kernel)
theorem ml_X7_188 : Cond.methodLink RX7 188 yX7_whyNot ∈ tbG := mg 941 (by decide +kernel) (by decide +kernel)
theorem ml_X7_191 : Cond.methodLink RX7 191 yX7_carryOut ∈ tbG := mg 945 (by decide +kernel) (by decide +kernel)
theorem ml_L_93 : Cond.methodLink RL 93 yX7_card ∈ tbG := mg 949 (by decide +kernel) (by decide +kernel)
theorem ml_L_97 : Cond.methodLink RL 97 yX7_ofCard ∈ tbG := mg 953 (by decide +kernel) (by decide +kernel)
theorem ml_X7_195 : Cond.methodLink RX7 195 yX7_shares ∈ tbG := mg 957 (by decide +kernel) (by decide +kernel)
theorem ml_L_101 : Cond.methodLink RL 101 yX7_told ∈ tbG := mg 961 (by decide +kernel) (by decide +kernel)
theorem ml_L_105 : Cond.methodLink RL 105 yX7_total ∈ tbG := mg 965 (by decide +kernel) (by decide +kernel)
theorem ml_X7_198 : Cond.methodLink RX7 198 yX7_leaving ∈ tbG := mg 969 (by decide +kernel) (by decide +kernel)
theorem ml_L_109 : Cond.methodLink RL 109 yX7_count ∈ tbG := mg 973 (by decide +kernel) (by decide +kernel)
theorem ml_X7_201 : Cond.methodLink RX7 201 yX7_withBeginning ∈ tbG := mg 977 (by decide +kernel) (by decide +kernel)
theorem ml_L_114 : Cond.methodLink RL 114 yX7_walkTakes ∈ tbG := mg 981 (by decide +kernel) (by decide +kernel)
theorem ml_L_118 : Cond.methodLink RL 118 yX7_roundsTake ∈ tbG := mg 985 (by decide +kernel) (by decide +kernel)
theorem ml_L_122 : Cond.methodLink RL 122 yX7_bestFrame ∈ tbG := mg 989 (by decide +kernel) (by decide +kernel)
theorem ml_L_126 : Cond.methodLink RL 126 yX7_thickest ∈ tbG := mg 993 (by decide +kernel) (by decide +kernel)
theorem im_obj : Cond.instanceMethod objectInit ∈ tbG := mg 61 (by decide +kernel) (by decide +kernel)
theorem oc_obj : Cond.code objectInit ⟨#[0xb1]⟩ 1 none ∈ tbG := mg 62 (by decide +kernel) (by decide +kernel)
theorem nt_copy : Cond.native arraycopyName ∈ tbG := mg 268 (by decide +kernel) (by decide +kernel)
theorem sm_copy : Cond.static arraycopyName ∈ tbG := mg 267 (by decide +kernel) (by decide +kernel)
theorem sm_max : Cond.static Lib.Math.max.name ∈ tbG := mg 453 (by decide +kernel) (by decide +kernel)
theorem oc_max : Cond.code Lib.Math.max.name Lib.Math.max.code 2 (some .int) ∈ tbG := mg 454 (by decide +kernel) (by decide +kernel)
theorem sm_min : Cond.static Lib.Math.min.name ∈ tbG := mg 517 (by decide +kernel) (by decide +kernel)
theorem oc_min : Cond.code Lib.Math.min.name Lib.Math.min.code 2 (some .int) ∈ tbG := mg 518 (by decide +kernel) (by decide +kernel)
end
section
theorem dX0_init_0 : decode cX0_init 0 = .ok (.aload_n 0, 1) := by decide +kernel
theorem dX0_init_1 : decode cX0_init 1 = .ok (.invokespecial 3, 3) := by decide +kernel
theorem dX0_init_4 : decode cX0_init 4 = .ok (.aload_n 0, 1) := by decide +kernel
theorem dX0_init_5 : decode cX0_init 5 = .ok (.iconst 4, 1) := by decide +kernel
theorem dX0_init_6 : decode cX0_init 6 = .ok (.anewarray 9, 3) := by decide +kernel
theorem dX0_init_9 : decode cX0_init 9 = .ok (.putfield 11, 3) := by decide +kernel
theorem dX0_init_12 : decode cX0_init 12 = .ok (.aload_n 0, 1) := by decide +kernel
theorem dX0_init_13 : decode cX0_init 13 = .ok (.iconst 0, 1) := by decide +kernel
theorem dX0_init_14 : decode cX0_init 14 = .ok (.putfield 17, 3) := by decide +kernel
theorem dX0_init_17 : decode cX0_init 17 = .ok (.iconst 0, 1) := by decide +kernel
theorem dX0_init_18 : decode cX0_init 18 = .ok (.istore_n 1, 1) := by decide +kernel
theorem dX0_init_19 : decode cX0_init 19 = .ok (.iload_n 1, 1) := by decide +kernel
theorem dX0_init_20 : decode cX0_init 20 = .ok (.iconst 4, 1) := by decide +kernel
theorem dX0_init_21 : decode cX0_init 21 = .ok (.if_icmp .ge 22, 3) := by decide +kernel
theorem dX0_init_24 : decode cX0_init 24 = .ok (.aload_n 0, 1) := by decide +kernel
theorem dX0_init_25 : decode cX0_init 25 = .ok (.getfield 11, 3) := by decide +kernel
theorem dX0_init_28 : decode cX0_init 28 = .ok (.iload_n 1, 1) := by decide +kernel
theorem dX0_init_29 : decode cX0_init 29 = .ok (.new 9, 3) := by decide +kernel
theorem dX0_init_32 : decode cX0_init 32 = .ok (.dup, 1) := by decide +kernel
theorem dX0_init_33 : decode cX0_init 33 = .ok (.invokespecial 21, 3) := by decide +kernel
theorem dX0_init_36 : decode cX0_init 36 = .ok (.aastore, 1) := by decide +kernel
theorem dX0_init_37 : decode cX0_init 37 = .ok (.iinc 1 1, 3) := by decide +kernel
theorem dX0_init_40 : decode cX0_init 40 = .ok (.goto (-21), 3) := by decide +kernel
theorem dX0_init_43 : decode cX0_init 43 = .ok (.return_, 1) := by decide +kernel
theorem dX0_states_0 : decode cX0_states 0 = .ok (.aload_n 0, 1) := by decide +kernel
theorem dX0_states_1 : decode cX0_states 1 = .ok (.getfield 17, 3) := by decide +kernel
theorem dX0_states_4 : decode cX0_states 4 = .ok (.ireturn, 1) := by decide +kernel
theorem dX0_add_0 : decode cX0_add 0 = .ok (.aload_n 0, 1) := by decide +kernel
theorem dX0_add_1 : decode cX0_add 1 = .ok (.getfield 17, 3) := by decide +kernel
theorem dX0_add_4 : decode cX0_add 4 = .ok (.iconst 4, 1) := by decide +kernel
theorem dX0_add_5 : decode cX0_add 5 = .ok (.if_icmp .lt 7, 3) := by decide +kernel
theorem dX0_add_8 : decode cX0_add 8 = .ok (.aload_n 0, 1) := by decide +kernel
theorem dX0_add_9 : decode cX0_add 9 = .ok (.invokevirtual 22, 3) := by decide +kernel
theorem dX0_add_12 : decode cX0_add 12 = .ok (.aload_n 0, 1) := by decide +kernel
theorem dX0_add_13 : decode cX0_add 13 = .ok (.getfield 17, 3) := by decide +kernel
theorem dX0_add_16 : decode cX0_add 16 = .ok (.ifCond .lt 46, 3) := by decide +kernel
theorem dX0_add_19 : decode cX0_add 19 = .ok (.aload_n 0, 1) := by decide +kernel
theorem dX0_add_20 : decode cX0_add 20 = .ok (.getfield 17, 3) := by decide +kernel
theorem dX0_add_23 : decode cX0_add 23 = .ok (.iconst 4, 1) := by decide +kernel
theorem dX0_add_24 : decode cX0_add 24 = .ok (.if_icmp .ge 38, 3) := by decide +kernel
theorem dX0_add_27 : decode cX0_add 27 = .ok (.aload_n 0, 1) := by decide +kernel
theorem dX0_add_28 : decode cX0_add 28 = .ok (.getfield 11, 3) := by decide +kernel
theorem dX0_add_31 : decode cX0_add 31 = .ok (.aload_n 0, 1) := by decide +kernel
theorem dX0_add_32 : decode cX0_add 32 = .ok (.getfield 17, 3) := by decide +kernel
theorem dX0_add_35 : decode cX0_add 35 = .ok (.aaload, 1) := by decide +kernel
theorem dX0_add_36 : decode cX0_add 36 = .ok (.ifnull 26, 3) := by decide +kernel
theorem dX0_add_39 : decode cX0_add 39 = .ok (.aload_n 0, 1) := by decide +kernel
theorem dX0_add_40 : decode cX0_add 40 = .ok (.getfield 11, 3) := by decide +kernel
theorem dX0_add_43 : decode cX0_add 43 = .ok (.aload_n 0, 1) := by decide +kernel
theorem dX0_add_44 : decode cX0_add 44 = .ok (.getfield 17, 3) := by decide +kernel
theorem dX0_add_47 : decode cX0_add 47 = .ok (.aaload, 1) := by decide +kernel
theorem dX0_add_48 : decode cX0_add 48 = .ok (.aload_n 1, 1) := by decide +kernel
theorem dX0_add_49 : decode cX0_add 49 = .ok (.invokevirtual 25, 3) := by decide +kernel
theorem dX0_add_52 : decode cX0_add 52 = .ok (.aload_n 0, 1) := by decide +kernel
theorem dX0_add_53 : decode cX0_add 53 = .ok (.dup, 1) := by decide +kernel
theorem dX0_add_54 : decode cX0_add 54 = .ok (.getfield 17, 3) := by decide +kernel
theorem dX0_add_57 : decode cX0_add 57 = .ok (.iconst 1, 1) := by decide +kernel
theorem dX0_add_58 : decode cX0_add 58 = .ok (.iadd, 1) := by decide +kernel
theorem dX0_add_59 : decode cX0_add 59 = .ok (.putfield 17, 3) := by decide +kernel
theorem dX0_add_62 : decode cX0_add 62 = .ok (.return_, 1) := by decide +kernel
theorem dX0_dropOldest_0 : decode cX0_dropOldest 0 = .ok (.aload_n 0, 1) := by decide +kernel
theorem dX0_dropOldest_1 : decode cX0_dropOldest 1 = .ok (.getfield 11, 3) := by decide +kernel
theorem dX0_dropOldest_4 : decode cX0_dropOldest 4 = .ok (.iconst 0, 1) := by decide +kernel
theorem dX0_dropOldest_5 : decode cX0_dropOldest 5 = .ok (.aaload, 1) := by decide +kernel
theorem dX0_dropOldest_6 : decode cX0_dropOldest 6 = .ok (.astore_n 1, 1) := by decide +kernel
theorem dX0_dropOldest_7 : decode cX0_dropOldest 7 = .ok (.iconst 1, 1) := by decide +kernel
theorem dX0_dropOldest_8 : decode cX0_dropOldest 8 = .ok (.istore_n 2, 1) := by decide +kernel
theorem dX0_dropOldest_9 : decode cX0_dropOldest 9 = .ok (.iload_n 2, 1) := by decide +kernel
theorem dX0_dropOldest_10 : decode cX0_dropOldest 10 = .ok (.iconst 4, 1) := by decide +kernel
theorem dX0_dropOldest_11 : decode cX0_dropOldest 11 = .ok (.if_icmp .ge 23, 3) := by decide +kernel
theorem dX0_dropOldest_14 : decode cX0_dropOldest 14 = .ok (.aload_n 0, 1) := by decide +kernel
theorem dX0_dropOldest_15 : decode cX0_dropOldest 15 = .ok (.getfield 11, 3) := by decide +kernel
theorem dX0_dropOldest_18 : decode cX0_dropOldest 18 = .ok (.iload_n 2, 1) := by decide +kernel
theorem dX0_dropOldest_19 : decode cX0_dropOldest 19 = .ok (.iconst 1, 1) := by decide +kernel
theorem dX0_dropOldest_20 : decode cX0_dropOldest 20 = .ok (.isub, 1) := by decide +kernel
theorem dX0_dropOldest_21 : decode cX0_dropOldest 21 = .ok (.aload_n 0, 1) := by decide +kernel
theorem dX0_dropOldest_22 : decode cX0_dropOldest 22 = .ok (.getfield 11, 3) := by decide +kernel
theorem dX0_dropOldest_25 : decode cX0_dropOldest 25 = .ok (.iload_n 2, 1) := by decide +kernel
theorem dX0_dropOldest_26 : decode cX0_dropOldest 26 = .ok (.aaload, 1) := by decide +kernel
theorem dX0_dropOldest_27 : decode cX0_dropOldest 27 = .ok (.aastore, 1) := by decide +kernel
theorem dX0_dropOldest_28 : decode cX0_dropOldest 28 = .ok (.iinc 2 1, 3) := by decide +kernel
theorem dX0_dropOldest_31 : decode cX0_dropOldest 31 = .ok (.goto (-22), 3) := by decide +kernel
theorem dX0_dropOldest_34 : decode cX0_dropOldest 34 = .ok (.aload_n 0, 1) := by decide +kernel
theorem dX0_dropOldest_35 : decode cX0_dropOldest 35 = .ok (.getfield 11, 3) := by decide +kernel
theorem dX0_dropOldest_38 : decode cX0_dropOldest 38 = .ok (.iconst 3, 1) := by decide +kernel
theorem dX0_dropOldest_39 : decode cX0_dropOldest 39 = .ok (.aload_n 1, 1) := by decide +kernel
theorem dX0_dropOldest_40 : decode cX0_dropOldest 40 = .ok (.aastore, 1) := by decide +kernel
theorem dX0_dropOldest_41 : decode cX0_dropOldest 41 = .ok (.aload_n 0, 1) := by decide +kernel
theorem dX0_dropOldest_42 : decode cX0_dropOldest 42 = .ok (.iconst 3, 1) := by decide +kernel
theorem dX0_dropOldest_43 : decode cX0_dropOldest 43 = .ok (.putfield 17, 3) := by decide +kernel
theorem dX0_dropOldest_46 : decode cX0_dropOldest 46 = .ok (.return_, 1) := by decide +kernel
theorem dX0_backTo_0 : decode cX0_backTo 0 = .ok (.aload_n 1, 1) := by decide +kernel
theorem dX0_backTo_1 : decode cX0_backTo 1 = .ok (.ifnull 19, 3) := by decide +kernel
theorem dX0_backTo_4 : decode cX0_backTo 4 = .ok (.aload_n 0, 1) := by decide +kernel
theorem dX0_backTo_5 : decode cX0_backTo 5 = .ok (.getfield 17, 3) := by decide +kernel
theorem dX0_backTo_8 : decode cX0_backTo 8 = .ok (.iconst 1, 1) := by decide +kernel
theorem dX0_backTo_9 : decode cX0_backTo 9 = .ok (.if_icmp .lt 11, 3) := by decide +kernel
theorem dX0_backTo_12 : decode cX0_backTo 12 = .ok (.aload_n 0, 1) := by decide +kernel
theorem dX0_backTo_13 : decode cX0_backTo 13 = .ok (.getfield 17, 3) := by decide +kernel
theorem dX0_backTo_16 : decode cX0_backTo 16 = .ok (.iconst 4, 1) := by decide +kernel
theorem dX0_backTo_17 : decode cX0_backTo 17 = .ok (.if_icmp .le 6, 3) := by decide +kernel
theorem dX0_backTo_20 : decode cX0_backTo 20 = .ok (.bipush (-5), 2) := by decide +kernel
theorem dX0_backTo_22 : decode cX0_backTo 22 = .ok (.ireturn, 1) := by decide +kernel
theorem dX0_backTo_23 : decode cX0_backTo 23 = .ok (.aload_n 0, 1) := by decide +kernel
theorem dX0_backTo_24 : decode cX0_backTo 24 = .ok (.dup, 1) := by decide +kernel
theorem dX0_backTo_25 : decode cX0_backTo 25 = .ok (.getfield 17, 3) := by decide +kernel
theorem dX0_backTo_28 : decode cX0_backTo 28 = .ok (.iconst 1, 1) := by decide +kernel
theorem dX0_backTo_29 : decode cX0_backTo 29 = .ok (.isub, 1) := by decide +kernel
theorem dX0_backTo_30 : decode cX0_backTo 30 = .ok (.putfield 17, 3) := by decide +kernel
theorem dX0_backTo_33 : decode cX0_backTo 33 = .ok (.aload_n 1, 1) := by decide +kernel
theorem dX0_backTo_34 : decode cX0_backTo 34 = .ok (.aload_n 0, 1) := by decide +kernel
theorem dX0_backTo_35 : decode cX0_backTo 35 = .ok (.getfield 11, 3) := by decide +kernel
theorem dX0_backTo_38 : decode cX0_backTo 38 = .ok (.aload_n 0, 1) := by decide +kernel
theorem dX0_backTo_39 : decode cX0_backTo 39 = .ok (.getfield 17, 3) := by decide +kernel
theorem dX0_backTo_42 : decode cX0_backTo 42 = .ok (.aaload, 1) := by decide +kernel
theorem dX0_backTo_43 : decode cX0_backTo 43 = .ok (.invokevirtual 25, 3) := by decide +kernel
theorem dX0_backTo_46 : decode cX0_backTo 46 = .ok (.aload_n 0, 1) := by decide +kernel
theorem dX0_backTo_47 : decode cX0_backTo 47 = .ok (.getfield 17, 3) := by decide +kernel
theorem dX0_backTo_50 : decode cX0_backTo 50 = .ok (.ireturn, 1) := by decide +kernel
theorem dX1_init_0 : decode cX1_init 0 = .ok (.aload_n 0, 1) := by decide +kernel
theorem dX1_init_1 : decode cX1_init 1 = .ok (.invokespecial 3, 3) := by decide +kernel
theorem dX1_init_4 : decode cX1_init 4 = .ok (.aload_n 0, 1) := by decide +kernel
theorem dX1_init_5 : decode cX1_init 5 = .ok (.bipush 20, 2) := by decide +kernel
theorem dX1_init_7 : decode cX1_init 7 = .ok (.newarray .int, 2) := by decide +kernel
theorem dX1_init_9 : decode cX1_init 9 = .ok (.putfield 9, 3) := by decide +kernel
theorem dX1_init_12 : decode cX1_init 12 = .ok (.aload_n 0, 1) := by decide +kernel
theorem dX1_init_13 : decode cX1_init 13 = .ok (.bipush 20, 2) := by decide +kernel
theorem dX1_init_15 : decode cX1_init 15 = .ok (.newarray .int, 2) := by decide +kernel
theorem dX1_init_17 : decode cX1_init 17 = .ok (.putfield 15, 3) := by decide +kernel
theorem dX1_init_20 : decode cX1_init 20 = .ok (.aload_n 0, 1) := by decide +kernel
theorem dX1_init_21 : decode cX1_init 21 = .ok (.bipush 20, 2) := by decide +kernel
theorem dX1_init_23 : decode cX1_init 23 = .ok (.newarray .int, 2) := by decide +kernel
theorem dX1_init_25 : decode cX1_init 25 = .ok (.putfield 18, 3) := by decide +kernel
theorem dX1_init_28 : decode cX1_init 28 = .ok (.aload_n 0, 1) := by decide +kernel
theorem dX1_init_29 : decode cX1_init 29 = .ok (.bipush 20, 2) := by decide +kernel
theorem dX1_init_31 : decode cX1_init 31 = .ok (.newarray .int, 2) := by decide +kernel
theorem dX1_init_33 : decode cX1_init 33 = .ok (.putfield 21, 3) := by decide +kernel
theorem dX1_init_36 : decode cX1_init 36 = .ok (.aload_n 0, 1) := by decide +kernel
theorem dX1_init_37 : decode cX1_init 37 = .ok (.bipush 20, 2) := by decide +kernel
theorem dX1_init_39 : decode cX1_init 39 = .ok (.newarray .boolean, 2) := by decide +kernel
theorem dX1_init_41 : decode cX1_init 41 = .ok (.putfield 24, 3) := by decide +kernel
theorem dX1_init_44 : decode cX1_init 44 = .ok (.aload_n 0, 1) := by decide +kernel
theorem dX1_init_45 : decode cX1_init 45 = .ok (.bipush 20, 2) := by decide +kernel
theorem dX1_init_47 : decode cX1_init 47 = .ok (.newarray .boolean, 2) := by decide +kernel
theorem dX1_init_49 : decode cX1_init 49 = .ok (.putfield 28, 3) := by decide +kernel
theorem dX1_init_52 : decode cX1_init 52 = .ok (.aload_n 0, 1) := by decide +kernel
theorem dX1_init_53 : decode cX1_init 53 = .ok (.iconst 0, 1) := by decide +kernel
theorem dX1_init_54 : decode cX1_init 54 = .ok (.putfield 31, 3) := by decide +kernel
theorem dX1_init_57 : decode cX1_init 57 = .ok (.return_, 1) := by decide +kernel
theorem dX1_copyFrom_0 : decode cX1_copyFrom 0 = .ok (.aload_n 1, 1) := by decide +kernel
theorem dX1_copyFrom_1 : decode cX1_copyFrom 1 = .ok (.ifnonnull 4, 3) := by decide +kernel
theorem dX1_copyFrom_4 : decode cX1_copyFrom 4 = .ok (.return_, 1) := by decide +kernel
theorem dX1_copyFrom_5 : decode cX1_copyFrom 5 = .ok (.aload_n 0, 1) := by decide +kernel
theorem dX1_copyFrom_6 : decode cX1_copyFrom 6 = .ok (.aload_n 1, 1) := by decide +kernel
theorem dX1_copyFrom_7 : decode cX1_copyFrom 7 = .ok (.getfield 31, 3) := by decide +kernel
theorem dX1_copyFrom_10 : decode cX1_copyFrom 10 = .ok (.putfield 31, 3) := by decide +kernel
theorem dX1_copyFrom_13 : decode cX1_copyFrom 13 = .ok (.iconst 0, 1) := by decide +kernel
theorem dX1_copyFrom_14 : decode cX1_copyFrom 14 = .ok (.istore_n 2, 1) := by decide +kernel
theorem dX1_copyFrom_15 : decode cX1_copyFrom 15 = .ok (.iload_n 2, 1) := by decide +kernel
theorem dX1_copyFrom_16 : decode cX1_copyFrom 16 = .ok (.aload_n 0, 1) := by decide +kernel
theorem dX1_copyFrom_17 : decode cX1_copyFrom 17 = .ok (.getfield 31, 3) := by decide +kernel
theorem dX1_copyFrom_20 : decode cX1_copyFrom 20 = .ok (.if_icmp .ge 63, 3) := by decide +kernel
theorem dX1_copyFrom_23 : decode cX1_copyFrom 23 = .ok (.iload_n 2, 1) := by decide +kernel
theorem dX1_copyFrom_24 : decode cX1_copyFrom 24 = .ok (.bipush 20, 2) := by decide +kernel
theorem dX1_copyFrom_26 : decode cX1_copyFrom 26 = .ok (.if_icmp .ge 57, 3) := by decide +kernel
theorem dX1_copyFrom_29 : decode cX1_copyFrom 29 = .ok (.aload_n 0, 1) := by decide +kernel
theorem dX1_copyFrom_30 : decode cX1_copyFrom 30 = .ok (.getfield 9, 3) := by decide +kernel
theorem dX1_copyFrom_33 : decode cX1_copyFrom 33 = .ok (.iload_n 2, 1) := by decide +kernel
theorem dX1_copyFrom_34 : decode cX1_copyFrom 34 = .ok (.aload_n 1, 1) := by decide +kernel
theorem dX1_copyFrom_35 : decode cX1_copyFrom 35 = .ok (.getfield 9, 3) := by decide +kernel
theorem dX1_copyFrom_38 : decode cX1_copyFrom 38 = .ok (.iload_n 2, 1) := by decide +kernel
theorem dX1_copyFrom_39 : decode cX1_copyFrom 39 = .ok (.iaload, 1) := by decide +kernel
theorem dX1_copyFrom_40 : decode cX1_copyFrom 40 = .ok (.iastore, 1) := by decide +kernel
theorem dX1_copyFrom_41 : decode cX1_copyFrom 41 = .ok (.aload_n 0, 1) := by decide +kernel
theorem dX1_copyFrom_42 : decode cX1_copyFrom 42 = .ok (.getfield 15, 3) := by decide +kernel
theorem dX1_copyFrom_45 : decode cX1_copyFrom 45 = .ok (.iload_n 2, 1) := by decide +kernel
theorem dX1_copyFrom_46 : decode cX1_copyFrom 46 = .ok (.aload_n 1, 1) := by decide +kernel
theorem dX1_copyFrom_47 : decode cX1_copyFrom 47 = .ok (.getfield 15, 3) := by decide +kernel
theorem dX1_copyFrom_50 : decode cX1_copyFrom 50 = .ok (.iload_n 2, 1) := by decide +kernel
theorem dX1_copyFrom_51 : decode cX1_copyFrom 51 = .ok (.iaload, 1) := by decide +kernel
theorem dX1_copyFrom_52 : decode cX1_copyFrom 52 = .ok (.iastore, 1) := by decide +kernel
theorem dX1_copyFrom_53 : decode cX1_copyFrom 53 = .ok (.aload_n 0, 1) := by decide +kernel
theorem dX1_copyFrom_54 : decode cX1_copyFrom 54 = .ok (.getfield 18, 3) := by decide +kernel
theorem dX1_copyFrom_57 : decode cX1_copyFrom 57 = .ok (.iload_n 2, 1) := by decide +kernel
theorem dX1_copyFrom_58 : decode cX1_copyFrom 58 = .ok (.aload_n 1, 1) := by decide +kernel
theorem dX1_copyFrom_59 : decode cX1_copyFrom 59 = .ok (.getfield 18, 3) := by decide +kernel
theorem dX1_copyFrom_62 : decode cX1_copyFrom 62 = .ok (.iload_n 2, 1) := by decide +kernel
theorem dX1_copyFrom_63 : decode cX1_copyFrom 63 = .ok (.iaload, 1) := by decide +kernel
theorem dX1_copyFrom_64 : decode cX1_copyFrom 64 = .ok (.iastore, 1) := by decide +kernel
theorem dX1_copyFrom_65 : decode cX1_copyFrom 65 = .ok (.aload_n 0, 1) := by decide +kernel
theorem dX1_copyFrom_66 : decode cX1_copyFrom 66 = .ok (.getfield 24, 3) := by decide +kernel
theorem dX1_copyFrom_69 : decode cX1_copyFrom 69 = .ok (.iload_n 2, 1) := by decide +kernel
theorem dX1_copyFrom_70 : decode cX1_copyFrom 70 = .ok (.aload_n 1, 1) := by decide +kernel
theorem dX1_copyFrom_71 : decode cX1_copyFrom 71 = .ok (.getfield 24, 3) := by decide +kernel
theorem dX1_copyFrom_74 : decode cX1_copyFrom 74 = .ok (.iload_n 2, 1) := by decide +kernel
theorem dX1_copyFrom_75 : decode cX1_copyFrom 75 = .ok (.baload, 1) := by decide +kernel
theorem dX1_copyFrom_76 : decode cX1_copyFrom 76 = .ok (.bastore, 1) := by decide +kernel
theorem dX1_copyFrom_77 : decode cX1_copyFrom 77 = .ok (.iinc 2 1, 3) := by decide +kernel
theorem dX1_copyFrom_80 : decode cX1_copyFrom 80 = .ok (.goto (-65), 3) := by decide +kernel
theorem dX1_copyFrom_83 : decode cX1_copyFrom 83 = .ok (.return_, 1) := by decide +kernel
theorem dX1_cards_0 : decode cX1_cards 0 = .ok (.aload_n 0, 1) := by decide +kernel
theorem dX1_cards_1 : decode cX1_cards 1 = .ok (.getfield 31, 3) := by decide +kernel
theorem dX1_cards_4 : decode cX1_cards 4 = .ok (.ireturn, 1) := by decide +kernel
theorem dX1_isCard_0 : decode cX1_isCard 0 = .ok (.iload_n 1, 1) := by decide +kernel
theorem dX1_isCard_1 : decode cX1_isCard 1 = .ok (.ifCond .lt 21, 3) := by decide +kernel
theorem dX1_isCard_4 : decode cX1_isCard 4 = .ok (.iload_n 1, 1) := by decide +kernel
theorem dX1_isCard_5 : decode cX1_isCard 5 = .ok (.aload_n 0, 1) := by decide +kernel
theorem dX1_isCard_6 : decode cX1_isCard 6 = .ok (.getfield 31, 3) := by decide +kernel
theorem dX1_isCard_9 : decode cX1_isCard 9 = .ok (.if_icmp .ge 13, 3) := by decide +kernel
theorem dX1_isCard_12 : decode cX1_isCard 12 = .ok (.iload_n 1, 1) := by decide +kernel
theorem dX1_isCard_13 : decode cX1_isCard 13 = .ok (.bipush 20, 2) := by decide +kernel
theorem dX1_isCard_15 : decode cX1_isCard 15 = .ok (.if_icmp .ge 7, 3) := by decide +kernel
theorem dX1_isCard_18 : decode cX1_isCard 18 = .ok (.iconst 1, 1) := by decide +kernel
theorem dX1_isCard_19 : decode cX1_isCard 19 = .ok (.goto 4, 3) := by decide +kernel
theorem dX1_isCard_22 : decode cX1_isCard 22 = .ok (.iconst 0, 1) := by decide +kernel
theorem dX1_isCard_23 : decode cX1_isCard 23 = .ok (.ireturn, 1) := by decide +kernel
theorem dX1_placeOf_0 : decode cX1_placeOf 0 = .ok (.iconst 0, 1) := by decide +kernel
theorem dX1_placeOf_1 : decode cX1_placeOf 1 = .ok (.istore_n 2, 1) := by decide +kernel
theorem dX1_placeOf_2 : decode cX1_placeOf 2 = .ok (.iload_n 2, 1) := by decide +kernel
theorem dX1_placeOf_3 : decode cX1_placeOf 3 = .ok (.aload_n 0, 1) := by decide +kernel
theorem dX1_placeOf_4 : decode cX1_placeOf 4 = .ok (.getfield 31, 3) := by decide +kernel
theorem dX1_placeOf_7 : decode cX1_placeOf 7 = .ok (.if_icmp .ge 27, 3) := by decide +kernel
theorem dX1_placeOf_10 : decode cX1_placeOf 10 = .ok (.iload_n 2, 1) := by decide +kernel
theorem dX1_placeOf_11 : decode cX1_placeOf 11 = .ok (.bipush 20, 2) := by decide +kernel
theorem dX1_placeOf_13 : decode cX1_placeOf 13 = .ok (.if_icmp .ge 21, 3) := by decide +kernel
theorem dX1_placeOf_16 : decode cX1_placeOf 16 = .ok (.aload_n 0, 1) := by decide +kernel
theorem dX1_placeOf_17 : decode cX1_placeOf 17 = .ok (.getfield 9, 3) := by decide +kernel
theorem dX1_placeOf_20 : decode cX1_placeOf 20 = .ok (.iload_n 2, 1) := by decide +kernel
theorem dX1_placeOf_21 : decode cX1_placeOf 21 = .ok (.iaload, 1) := by decide +kernel
theorem dX1_placeOf_22 : decode cX1_placeOf 22 = .ok (.iload_n 1, 1) := by decide +kernel
theorem dX1_placeOf_23 : decode cX1_placeOf 23 = .ok (.if_icmp .ne 5, 3) := by decide +kernel
theorem dX1_placeOf_26 : decode cX1_placeOf 26 = .ok (.iload_n 2, 1) := by decide +kernel
theorem dX1_placeOf_27 : decode cX1_placeOf 27 = .ok (.ireturn, 1) := by decide +kernel
theorem dX1_placeOf_28 : decode cX1_placeOf 28 = .ok (.iinc 2 1, 3) := by decide +kernel
theorem dX1_placeOf_31 : decode cX1_placeOf 31 = .ok (.goto (-29), 3) := by decide +kernel
theorem dX1_placeOf_34 : decode cX1_placeOf 34 = .ok (.iconst (-1), 1) := by decide +kernel
theorem dX1_placeOf_35 : decode cX1_placeOf 35 = .ok (.ireturn, 1) := by decide +kernel
theorem dX1_nameAt_0 : decode cX1_nameAt 0 = .ok (.aload_n 0, 1) := by decide +kernel
theorem dX1_nameAt_1 : decode cX1_nameAt 1 = .ok (.iload_n 1, 1) := by decide +kernel
theorem dX1_nameAt_2 : decode cX1_nameAt 2 = .ok (.invokevirtual 35, 3) := by decide +kernel
theorem dX1_nameAt_5 : decode cX1_nameAt 5 = .ok (.ifCond .eq 12, 3) := by decide +kernel
theorem dX1_nameAt_8 : decode cX1_nameAt 8 = .ok (.aload_n 0, 1) := by decide +kernel
theorem dX1_nameAt_9 : decode cX1_nameAt 9 = .ok (.getfield 9, 3) := by decide +kernel
theorem dX1_nameAt_12 : decode cX1_nameAt 12 = .ok (.iload_n 1, 1) := by decide +kernel
theorem dX1_nameAt_13 : decode cX1_nameAt 13 = .ok (.iaload, 1) := by decide +kernel
theorem dX1_nameAt_14 : decode cX1_nameAt 14 = .ok (.goto 5, 3) := by decide +kernel
theorem dX1_nameAt_17 : decode cX1_nameAt 17 = .ok (.bipush (-5), 2) := by decide +kernel
theorem dX1_nameAt_19 : decode cX1_nameAt 19 = .ok (.ireturn, 1) := by decide +kernel
theorem dX1_isAwake_0 : decode cX1_isAwake 0 = .ok (.aload_n 0, 1) := by decide +kernel
theorem dX1_isAwake_1 : decode cX1_isAwake 1 = .ok (.iload_n 1, 1) := by decide +kernel
theorem dX1_isAwake_2 : decode cX1_isAwake 2 = .ok (.invokevirtual 35, 3) := by decide +kernel
theorem dX1_isAwake_5 : decode cX1_isAwake 5 = .ok (.ifCond .eq 16, 3) := by decide +kernel
theorem dX1_isAwake_8 : decode cX1_isAwake 8 = .ok (.aload_n 0, 1) := by decide +kernel
theorem dX1_isAwake_9 : decode cX1_isAwake 9 = .ok (.getfield 24, 3) := by decide +kernel
theorem dX1_isAwake_12 : decode cX1_isAwake 12 = .ok (.iload_n 1, 1) := by decide +kernel
theorem dX1_isAwake_13 : decode cX1_isAwake 13 = .ok (.baload, 1) := by decide +kernel
theorem dX1_isAwake_14 : decode cX1_isAwake 14 = .ok (.ifCond .eq 7, 3) := by decide +kernel
theorem dX1_isAwake_17 : decode cX1_isAwake 17 = .ok (.iconst 1, 1) := by decide +kernel
theorem dX1_isAwake_18 : decode cX1_isAwake 18 = .ok (.goto 4, 3) := by decide +kernel
theorem dX1_isAwake_21 : decode cX1_isAwake 21 = .ok (.iconst 0, 1) := by decide +kernel
theorem dX1_isAwake_22 : decode cX1_isAwake 22 = .ok (.ireturn, 1) := by decide +kernel
theorem dX1_asksToGo_0 : decode cX1_asksToGo 0 = .ok (.aload_n 0, 1) := by decide +kernel
theorem dX1_asksToGo_1 : decode cX1_asksToGo 1 = .ok (.iload_n 1, 1) := by decide +kernel
theorem dX1_asksToGo_2 : decode cX1_asksToGo 2 = .ok (.invokevirtual 35, 3) := by decide +kernel
theorem dX1_asksToGo_5 : decode cX1_asksToGo 5 = .ok (.ifCond .eq 12, 3) := by decide +kernel
theorem dX1_asksToGo_8 : decode cX1_asksToGo 8 = .ok (.aload_n 0, 1) := by decide +kernel
theorem dX1_asksToGo_9 : decode cX1_asksToGo 9 = .ok (.getfield 15, 3) := by decide +kernel
theorem dX1_asksToGo_12 : decode cX1_asksToGo 12 = .ok (.iload_n 1, 1) := by decide +kernel
theorem dX1_asksToGo_13 : decode cX1_asksToGo 13 = .ok (.iaload, 1) := by decide +kernel
theorem dX1_asksToGo_14 : decode cX1_asksToGo 14 = .ok (.goto 4, 3) := by decide +kernel
theorem dX1_asksToGo_17 : decode cX1_asksToGo 17 = .ok (.iconst 0, 1) := by decide +kernel
theorem dX1_asksToGo_18 : decode cX1_asksToGo 18 = .ok (.ireturn, 1) := by decide +kernel
theorem dX1_tellings_0 : decode cX1_tellings 0 = .ok (.aload_n 0, 1) := by decide +kernel
theorem dX1_tellings_1 : decode cX1_tellings 1 = .ok (.iload_n 1, 1) := by decide +kernel
theorem dX1_tellings_2 : decode cX1_tellings 2 = .ok (.invokevirtual 35, 3) := by decide +kernel
theorem dX1_tellings_5 : decode cX1_tellings 5 = .ok (.ifCond .eq 12, 3) := by decide +kernel
theorem dX1_tellings_8 : decode cX1_tellings 8 = .ok (.aload_n 0, 1) := by decide +kernel
theorem dX1_tellings_9 : decode cX1_tellings 9 = .ok (.getfield 18, 3) := by decide +kernel
theorem dX1_tellings_12 : decode cX1_tellings 12 = .ok (.iload_n 1, 1) := by decide +kernel
theorem dX1_tellings_13 : decode cX1_tellings 13 = .ok (.iaload, 1) := by decide +kernel
theorem dX1_tellings_14 : decode cX1_tellings 14 = .ok (.goto 4, 3) := by decide +kernel
theorem dX1_tellings_17 : decode cX1_tellings 17 = .ok (.iconst 0, 1) := by decide +kernel
theorem dX1_tellings_18 : decode cX1_tellings 18 = .ok (.ireturn, 1) := by decide +kernel
theorem dX1_sharedBits_0 : decode cX1_sharedBits 0 = .ok (.aload_n 0, 1) := by decide +kernel
theorem dX1_sharedBits_1 : decode cX1_sharedBits 1 = .ok (.iload_n 1, 1) := by decide +kernel
theorem dX1_sharedBits_2 : decode cX1_sharedBits 2 = .ok (.invokevirtual 35, 3) := by decide +kernel
theorem dX1_sharedBits_5 : decode cX1_sharedBits 5 = .ok (.ifCond .ne 6, 3) := by decide +kernel
theorem dX1_sharedBits_8 : decode cX1_sharedBits 8 = .ok (.bipush (-5), 2) := by decide +kernel
theorem dX1_sharedBits_10 : decode cX1_sharedBits 10 = .ok (.ireturn, 1) := by decide +kernel
theorem dX1_sharedBits_11 : decode cX1_sharedBits 11 = .ok (.bipush (-5), 2) := by decide +kernel
theorem dX1_sharedBits_13 : decode cX1_sharedBits 13 = .ok (.istore_n 2, 1) := by decide +kernel
theorem dX1_sharedBits_14 : decode cX1_sharedBits 14 = .ok (.iconst 0, 1) := by decide +kernel
theorem dX1_sharedBits_15 : decode cX1_sharedBits 15 = .ok (.istore_n 3, 1) := by decide +kernel
theorem dX1_sharedBits_16 : decode cX1_sharedBits 16 = .ok (.iload_n 3, 1) := by decide +kernel
theorem dX1_sharedBits_17 : decode cX1_sharedBits 17 = .ok (.aload_n 0, 1) := by decide +kernel
theorem dX1_sharedBits_18 : decode cX1_sharedBits 18 = .ok (.getfield 31, 3) := by decide +kernel
theorem dX1_sharedBits_21 : decode cX1_sharedBits 21 = .ok (.if_icmp .ge 41, 3) := by decide +kernel
theorem dX1_sharedBits_24 : decode cX1_sharedBits 24 = .ok (.iload_n 3, 1) := by decide +kernel
theorem dX1_sharedBits_25 : decode cX1_sharedBits 25 = .ok (.bipush 20, 2) := by decide +kernel
theorem dX1_sharedBits_27 : decode cX1_sharedBits 27 = .ok (.if_icmp .ge 35, 3) := by decide +kernel
theorem dX1_sharedBits_30 : decode cX1_sharedBits 30 = .ok (.iload_n 3, 1) := by decide +kernel
theorem dX1_sharedBits_31 : decode cX1_sharedBits 31 = .ok (.iload_n 1, 1) := by decide +kernel
theorem dX1_sharedBits_32 : decode cX1_sharedBits 32 = .ok (.if_icmp .eq 24, 3) := by decide +kernel
theorem dX1_sharedBits_35 : decode cX1_sharedBits 35 = .ok (.iload_n 2, 1) := by decide +kernel
theorem dX1_sharedBits_36 : decode cX1_sharedBits 36 = .ok (.aload_n 0, 1) := by decide +kernel
theorem dX1_sharedBits_37 : decode cX1_sharedBits 37 = .ok (.getfield 9, 3) := by decide +kernel
theorem dX1_sharedBits_40 : decode cX1_sharedBits 40 = .ok (.iload_n 3, 1) := by decide +kernel
theorem dX1_sharedBits_41 : decode cX1_sharedBits 41 = .ok (.iaload, 1) := by decide +kernel
theorem dX1_sharedBits_42 : decode cX1_sharedBits 42 = .ok (.aload_n 0, 1) := by decide +kernel
theorem dX1_sharedBits_43 : decode cX1_sharedBits 43 = .ok (.getfield 9, 3) := by decide +kernel
theorem dX1_sharedBits_46 : decode cX1_sharedBits 46 = .ok (.iload_n 1, 1) := by decide +kernel
theorem dX1_sharedBits_47 : decode cX1_sharedBits 47 = .ok (.iaload, 1) := by decide +kernel
theorem dX1_sharedBits_48 : decode cX1_sharedBits 48 = .ok (.ixor, 1) := by decide +kernel
theorem dX1_sharedBits_49 : decode cX1_sharedBits 49 = .ok (.invokestatic 39, 3) := by decide +kernel
theorem dX1_sharedBits_52 : decode cX1_sharedBits 52 = .ok (.invokestatic 43, 3) := by decide +kernel
theorem dX1_sharedBits_55 : decode cX1_sharedBits 55 = .ok (.istore_n 2, 1) := by decide +kernel
theorem dX1_sharedBits_56 : decode cX1_sharedBits 56 = .ok (.iinc 3 1, 3) := by decide +kernel
theorem dX1_sharedBits_59 : decode cX1_sharedBits 59 = .ok (.goto (-43), 3) := by decide +kernel
theorem dX1_sharedBits_62 : decode cX1_sharedBits 62 = .ok (.iload_n 2, 1) := by decide +kernel
theorem dX1_sharedBits_63 : decode cX1_sharedBits 63 = .ok (.ireturn, 1) := by decide +kernel
theorem dX1_awakeCards_0 : decode cX1_awakeCards 0 = .ok (.aload_n 0, 1) := by decide +kernel
theorem dX1_awakeCards_1 : decode cX1_awakeCards 1 = .ok (.iconst 0, 1) := by decide +kernel
theorem dX1_awakeCards_2 : decode cX1_awakeCards 2 = .ok (.iconst 0, 1) := by decide +kernel
theorem dX1_awakeCards_3 : decode cX1_awakeCards 3 = .ok (.invokevirtual 49, 3) := by decide +kernel
theorem dX1_awakeCards_6 : decode cX1_awakeCards 6 = .ok (.ireturn, 1) := by decide +kernel
theorem dX1_awakeWith_0 : decode cX1_awakeWith 0 = .ok (.iconst 0, 1) := by decide +kernel
theorem dX1_awakeWith_1 : decode cX1_awakeWith 1 = .ok (.istore_n 3, 1) := by decide +kernel
theorem dX1_awakeWith_2 : decode cX1_awakeWith 2 = .ok (.iconst 0, 1) := by decide +kernel
theorem dX1_awakeWith_3 : decode cX1_awakeWith 3 = .ok (.istore 4, 2) := by decide +kernel
theorem dX1_awakeWith_5 : decode cX1_awakeWith 5 = .ok (.iload 4, 2) := by decide +kernel
theorem dX1_awakeWith_7 : decode cX1_awakeWith 7 = .ok (.aload_n 0, 1) := by decide +kernel
theorem dX1_awakeWith_8 : decode cX1_awakeWith 8 = .ok (.getfield 31, 3) := by decide +kernel
theorem dX1_awakeWith_11 : decode cX1_awakeWith 11 = .ok (.if_icmp .ge 44, 3) := by decide +kernel
theorem dX1_awakeWith_14 : decode cX1_awakeWith 14 = .ok (.iload 4, 2) := by decide +kernel
theorem dX1_awakeWith_16 : decode cX1_awakeWith 16 = .ok (.bipush 20, 2) := by decide +kernel
theorem dX1_awakeWith_18 : decode cX1_awakeWith 18 = .ok (.if_icmp .ge 37, 3) := by decide +kernel
theorem dX1_awakeWith_21 : decode cX1_awakeWith 21 = .ok (.aload_n 0, 1) := by decide +kernel
theorem dX1_awakeWith_22 : decode cX1_awakeWith 22 = .ok (.getfield 24, 3) := by decide +kernel
theorem dX1_awakeWith_25 : decode cX1_awakeWith 25 = .ok (.iload 4, 2) := by decide +kernel
theorem dX1_awakeWith_27 : decode cX1_awakeWith 27 = .ok (.baload, 1) := by decide +kernel
theorem dX1_awakeWith_28 : decode cX1_awakeWith 28 = .ok (.ifCond .eq 21, 3) := by decide +kernel
theorem dX1_awakeWith_31 : decode cX1_awakeWith 31 = .ok (.aload_n 0, 1) := by decide +kernel
theorem dX1_awakeWith_32 : decode cX1_awakeWith 32 = .ok (.getfield 9, 3) := by decide +kernel
theorem dX1_awakeWith_35 : decode cX1_awakeWith 35 = .ok (.iload 4, 2) := by decide +kernel
theorem dX1_awakeWith_37 : decode cX1_awakeWith 37 = .ok (.iaload, 1) := by decide +kernel
theorem dX1_awakeWith_38 : decode cX1_awakeWith 38 = .ok (.iload_n 1, 1) := by decide +kernel
theorem dX1_awakeWith_39 : decode cX1_awakeWith 39 = .ok (.invokestatic 52, 3) := by decide +kernel
theorem dX1_awakeWith_42 : decode cX1_awakeWith 42 = .ok (.iload_n 2, 1) := by decide +kernel
theorem dX1_awakeWith_43 : decode cX1_awakeWith 43 = .ok (.if_icmp .ne 6, 3) := by decide +kernel
theorem dX1_awakeWith_46 : decode cX1_awakeWith 46 = .ok (.iinc 3 1, 3) := by decide +kernel
theorem dX1_awakeWith_49 : decode cX1_awakeWith 49 = .ok (.iinc 4 1, 3) := by decide +kernel
theorem dX1_awakeWith_52 : decode cX1_awakeWith 52 = .ok (.goto (-47), 3) := by decide +kernel
theorem dX1_awakeWith_55 : decode cX1_awakeWith 55 = .ok (.iload_n 3, 1) := by decide +kernel
theorem dX1_awakeWith_56 : decode cX1_awakeWith 56 = .ok (.ireturn, 1) := by decide +kernel
theorem dX1_leavingCards_0 : decode cX1_leavingCards 0 = .ok (.iconst 0, 1) := by decide +kernel
theorem dX1_leavingCards_1 : decode cX1_leavingCards 1 = .ok (.istore_n 1, 1) := by decide +kernel
theorem dX1_leavingCards_2 : decode cX1_leavingCards 2 = .ok (.iconst 0, 1) := by decide +kernel
theorem dX1_leavingCards_3 : decode cX1_leavingCards 3 = .ok (.istore_n 2, 1) := by decide +kernel
theorem dX1_leavingCards_4 : decode cX1_leavingCards 4 = .ok (.iload_n 2, 1) := by decide +kernel
theorem dX1_leavingCards_5 : decode cX1_leavingCards 5 = .ok (.aload_n 0, 1) := by decide +kernel
theorem dX1_leavingCards_6 : decode cX1_leavingCards 6 = .ok (.getfield 31, 3) := by decide +kernel
theorem dX1_leavingCards_9 : decode cX1_leavingCards 9 = .ok (.if_icmp .ge 27, 3) := by decide +kernel
theorem dX1_leavingCards_12 : decode cX1_leavingCards 12 = .ok (.iload_n 2, 1) := by decide +kernel
theorem dX1_leavingCards_13 : decode cX1_leavingCards 13 = .ok (.bipush 20, 2) := by decide +kernel
theorem dX1_leavingCards_15 : decode cX1_leavingCards 15 = .ok (.if_icmp .ge 21, 3) := by decide +kernel
theorem dX1_leavingCards_18 : decode cX1_leavingCards 18 = .ok (.aload_n 0, 1) := by decide +kernel
theorem dX1_leavingCards_19 : decode cX1_leavingCards 19 = .ok (.getfield 15, 3) := by decide +kernel
theorem dX1_leavingCards_22 : decode cX1_leavingCards 22 = .ok (.iload_n 2, 1) := by decide +kernel
theorem dX1_leavingCards_23 : decode cX1_leavingCards 23 = .ok (.iaload, 1) := by decide +kernel
theorem dX1_leavingCards_24 : decode cX1_leavingCards 24 = .ok (.ifCond .le 6, 3) := by decide +kernel
theorem dX1_leavingCards_27 : decode cX1_leavingCards 27 = .ok (.iinc 1 1, 3) := by decide +kernel
theorem dX1_leavingCards_30 : decode cX1_leavingCards 30 = .ok (.iinc 2 1, 3) := by decide +kernel
theorem dX1_leavingCards_33 : decode cX1_leavingCards 33 = .ok (.goto (-29), 3) := by decide +kernel
theorem dX1_leavingCards_36 : decode cX1_leavingCards 36 = .ok (.iload_n 1, 1) := by decide +kernel
theorem dX1_leavingCards_37 : decode cX1_leavingCards 37 = .ok (.ireturn, 1) := by decide +kernel
theorem dX1_insert_0 : decode cX1_insert 0 = .ok (.aload_n 0, 1) := by decide +kernel
theorem dX1_insert_1 : decode cX1_insert 1 = .ok (.getfield 31, 3) := by decide +kernel
theorem dX1_insert_4 : decode cX1_insert 4 = .ok (.ifCond .lt 12, 3) := by decide +kernel
theorem dX1_insert_7 : decode cX1_insert 7 = .ok (.aload_n 0, 1) := by decide +kernel
theorem dX1_insert_8 : decode cX1_insert 8 = .ok (.getfield 31, 3) := by decide +kernel
theorem dX1_insert_11 : decode cX1_insert 11 = .ok (.bipush 20, 2) := by decide +kernel
theorem dX1_insert_13 : decode cX1_insert 13 = .ok (.if_icmp .lt 4, 3) := by decide +kernel
theorem dX1_insert_16 : decode cX1_insert 16 = .ok (.return_, 1) := by decide +kernel
theorem dX1_insert_17 : decode cX1_insert 17 = .ok (.aload_n 0, 1) := by decide +kernel
theorem dX1_insert_18 : decode cX1_insert 18 = .ok (.getfield 31, 3) := by decide +kernel
theorem dX1_insert_21 : decode cX1_insert 21 = .ok (.istore_n 2, 1) := by decide +kernel
theorem dX1_insert_22 : decode cX1_insert 22 = .ok (.iload_n 2, 1) := by decide +kernel
theorem dX1_insert_23 : decode cX1_insert 23 = .ok (.ifCond .le 29, 3) := by decide +kernel
theorem dX1_insert_26 : decode cX1_insert 26 = .ok (.aload_n 0, 1) := by decide +kernel
theorem dX1_insert_27 : decode cX1_insert 27 = .ok (.getfield 9, 3) := by decide +kernel
theorem dX1_insert_30 : decode cX1_insert 30 = .ok (.iload_n 2, 1) := by decide +kernel
theorem dX1_insert_31 : decode cX1_insert 31 = .ok (.iconst 1, 1) := by decide +kernel
theorem dX1_insert_32 : decode cX1_insert 32 = .ok (.isub, 1) := by decide +kernel
theorem dX1_insert_33 : decode cX1_insert 33 = .ok (.iaload, 1) := by decide +kernel
theorem dX1_insert_34 : decode cX1_insert 34 = .ok (.iload_n 1, 1) := by decide +kernel
theorem dX1_insert_35 : decode cX1_insert 35 = .ok (.if_icmp .le 17, 3) := by decide +kernel
theorem dX1_insert_38 : decode cX1_insert 38 = .ok (.aload_n 0, 1) := by decide +kernel
theorem dX1_insert_39 : decode cX1_insert 39 = .ok (.iload_n 2, 1) := by decide +kernel
theorem dX1_insert_40 : decode cX1_insert 40 = .ok (.iconst 1, 1) := by decide +kernel
theorem dX1_insert_41 : decode cX1_insert 41 = .ok (.isub, 1) := by decide +kernel
theorem dX1_insert_42 : decode cX1_insert 42 = .ok (.iload_n 2, 1) := by decide +kernel
theorem dX1_insert_43 : decode cX1_insert 43 = .ok (.invokevirtual 55, 3) := by decide +kernel
theorem dX1_insert_46 : decode cX1_insert 46 = .ok (.iinc 2 (-1), 3) := by decide +kernel
theorem dX1_insert_49 : decode cX1_insert 49 = .ok (.goto (-27), 3) := by decide +kernel
theorem dX1_insert_52 : decode cX1_insert 52 = .ok (.aload_n 0, 1) := by decide +kernel
theorem dX1_insert_53 : decode cX1_insert 53 = .ok (.getfield 9, 3) := by decide +kernel
theorem dX1_insert_56 : decode cX1_insert 56 = .ok (.iload_n 2, 1) := by decide +kernel
theorem dX1_insert_57 : decode cX1_insert 57 = .ok (.iload_n 1, 1) := by decide +kernel
theorem dX1_insert_58 : decode cX1_insert 58 = .ok (.iastore, 1) := by decide +kernel
theorem dX1_insert_59 : decode cX1_insert 59 = .ok (.aload_n 0, 1) := by decide +kernel
theorem dX1_insert_60 : decode cX1_insert 60 = .ok (.getfield 15, 3) := by decide +kernel
theorem dX1_insert_63 : decode cX1_insert 63 = .ok (.iload_n 2, 1) := by decide +kernel
theorem dX1_insert_64 : decode cX1_insert 64 = .ok (.iconst 0, 1) := by decide +kernel
theorem dX1_insert_65 : decode cX1_insert 65 = .ok (.iastore, 1) := by decide +kernel
theorem dX1_insert_66 : decode cX1_insert 66 = .ok (.aload_n 0, 1) := by decide +kernel
theorem dX1_insert_67 : decode cX1_insert 67 = .ok (.getfield 18, 3) := by decide +kernel
theorem dX1_insert_70 : decode cX1_insert 70 = .ok (.iload_n 2, 1) := by decide +kernel
theorem dX1_insert_71 : decode cX1_insert 71 = .ok (.iconst 0, 1) := by decide +kernel
theorem dX1_insert_72 : decode cX1_insert 72 = .ok (.iastore, 1) := by decide +kernel
theorem dX1_insert_73 : decode cX1_insert 73 = .ok (.aload_n 0, 1) := by decide +kernel
theorem dX1_insert_74 : decode cX1_insert 74 = .ok (.getfield 21, 3) := by decide +kernel
theorem dX1_insert_77 : decode cX1_insert 77 = .ok (.iload_n 2, 1) := by decide +kernel
theorem dX1_insert_78 : decode cX1_insert 78 = .ok (.iconst (-1), 1) := by decide +kernel
theorem dX1_insert_79 : decode cX1_insert 79 = .ok (.iastore, 1) := by decide +kernel
theorem dX1_insert_80 : decode cX1_insert 80 = .ok (.aload_n 0, 1) := by decide +kernel
theorem dX1_insert_81 : decode cX1_insert 81 = .ok (.getfield 24, 3) := by decide +kernel
theorem dX1_insert_84 : decode cX1_insert 84 = .ok (.iload_n 2, 1) := by decide +kernel
theorem dX1_insert_85 : decode cX1_insert 85 = .ok (.iconst 1, 1) := by decide +kernel
theorem dX1_insert_86 : decode cX1_insert 86 = .ok (.bastore, 1) := by decide +kernel
theorem dX1_insert_87 : decode cX1_insert 87 = .ok (.aload_n 0, 1) := by decide +kernel
theorem dX1_insert_88 : decode cX1_insert 88 = .ok (.dup, 1) := by decide +kernel
theorem dX1_insert_89 : decode cX1_insert 89 = .ok (.getfield 31, 3) := by decide +kernel
theorem dX1_insert_92 : decode cX1_insert 92 = .ok (.iconst 1, 1) := by decide +kernel
theorem dX1_insert_93 : decode cX1_insert 93 = .ok (.iadd, 1) := by decide +kernel
theorem dX1_insert_94 : decode cX1_insert 94 = .ok (.putfield 31, 3) := by decide +kernel
theorem dX1_insert_97 : decode cX1_insert 97 = .ok (.return_, 1) := by decide +kernel
theorem dX1_removeAt_0 : decode cX1_removeAt 0 = .ok (.aload_n 0, 1) := by decide +kernel
theorem dX1_removeAt_1 : decode cX1_removeAt 1 = .ok (.iload_n 1, 1) := by decide +kernel
theorem dX1_removeAt_2 : decode cX1_removeAt 2 = .ok (.invokevirtual 35, 3) := by decide +kernel
theorem dX1_removeAt_5 : decode cX1_removeAt 5 = .ok (.ifCond .ne 4, 3) := by decide +kernel
theorem dX1_removeAt_8 : decode cX1_removeAt 8 = .ok (.return_, 1) := by decide +kernel
theorem dX1_removeAt_9 : decode cX1_removeAt 9 = .ok (.iload_n 1, 1) := by decide +kernel
theorem dX1_removeAt_10 : decode cX1_removeAt 10 = .ok (.istore_n 2, 1) := by decide +kernel
theorem dX1_removeAt_11 : decode cX1_removeAt 11 = .ok (.iload_n 2, 1) := by decide +kernel
theorem dX1_removeAt_12 : decode cX1_removeAt 12 = .ok (.iconst 1, 1) := by decide +kernel
theorem dX1_removeAt_13 : decode cX1_removeAt 13 = .ok (.iadd, 1) := by decide +kernel
theorem dX1_removeAt_14 : decode cX1_removeAt 14 = .ok (.aload_n 0, 1) := by decide +kernel
theorem dX1_removeAt_15 : decode cX1_removeAt 15 = .ok (.getfield 31, 3) := by decide +kernel
theorem dX1_removeAt_18 : decode cX1_removeAt 18 = .ok (.if_icmp .ge 25, 3) := by decide +kernel
theorem dX1_removeAt_21 : decode cX1_removeAt 21 = .ok (.iload_n 2, 1) := by decide +kernel
theorem dX1_removeAt_22 : decode cX1_removeAt 22 = .ok (.iconst 1, 1) := by decide +kernel
theorem dX1_removeAt_23 : decode cX1_removeAt 23 = .ok (.iadd, 1) := by decide +kernel
theorem dX1_removeAt_24 : decode cX1_removeAt 24 = .ok (.bipush 20, 2) := by decide +kernel
theorem dX1_removeAt_26 : decode cX1_removeAt 26 = .ok (.if_icmp .ge 17, 3) := by decide +kernel
theorem dX1_removeAt_29 : decode cX1_removeAt 29 = .ok (.aload_n 0, 1) := by decide +kernel
theorem dX1_removeAt_30 : decode cX1_removeAt 30 = .ok (.iload_n 2, 1) := by decide +kernel
theorem dX1_removeAt_31 : decode cX1_removeAt 31 = .ok (.iconst 1, 1) := by decide +kernel
theorem dX1_removeAt_32 : decode cX1_removeAt 32 = .ok (.iadd, 1) := by decide +kernel
theorem dX1_removeAt_33 : decode cX1_removeAt 33 = .ok (.iload_n 2, 1) := by decide +kernel
theorem dX1_removeAt_34 : decode cX1_removeAt 34 = .ok (.invokevirtual 55, 3) := by decide +kernel
theorem dX1_removeAt_37 : decode cX1_removeAt 37 = .ok (.iinc 2 1, 3) := by decide +kernel
theorem dX1_removeAt_40 : decode cX1_removeAt 40 = .ok (.goto (-29), 3) := by decide +kernel
theorem dX1_removeAt_43 : decode cX1_removeAt 43 = .ok (.aload_n 0, 1) := by decide +kernel
theorem dX1_removeAt_44 : decode cX1_removeAt 44 = .ok (.dup, 1) := by decide +kernel
theorem dX1_removeAt_45 : decode cX1_removeAt 45 = .ok (.getfield 31, 3) := by decide +kernel
theorem dX1_removeAt_48 : decode cX1_removeAt 48 = .ok (.iconst 1, 1) := by decide +kernel
theorem dX1_removeAt_49 : decode cX1_removeAt 49 = .ok (.isub, 1) := by decide +kernel
theorem dX1_removeAt_50 : decode cX1_removeAt 50 = .ok (.putfield 31, 3) := by decide +kernel
theorem dX1_removeAt_53 : decode cX1_removeAt 53 = .ok (.return_, 1) := by decide +kernel
theorem dX1_moveCard_0 : decode cX1_moveCard 0 = .ok (.iload_n 1, 1) := by decide +kernel
theorem dX1_moveCard_1 : decode cX1_moveCard 1 = .ok (.ifCond .lt 19, 3) := by decide +kernel
theorem dX1_moveCard_4 : decode cX1_moveCard 4 = .ok (.iload_n 1, 1) := by decide +kernel
theorem dX1_moveCard_5 : decode cX1_moveCard 5 = .ok (.bipush 20, 2) := by decide +kernel
theorem dX1_moveCard_7 : decode cX1_moveCard 7 = .ok (.if_icmp .ge 13, 3) := by decide +kernel
theorem dX1_moveCard_10 : decode cX1_moveCard 10 = .ok (.iload_n 2, 1) := by decide +kernel
theorem dX1_moveCard_11 : decode cX1_moveCard 11 = .ok (.ifCond .lt 9, 3) := by decide +kernel
theorem dX1_moveCard_14 : decode cX1_moveCard 14 = .ok (.iload_n 2, 1) := by decide +kernel
theorem dX1_moveCard_15 : decode cX1_moveCard 15 = .ok (.bipush 20, 2) := by decide +kernel
theorem dX1_moveCard_17 : decode cX1_moveCard 17 = .ok (.if_icmp .lt 4, 3) := by decide +kernel
theorem dX1_moveCard_20 : decode cX1_moveCard 20 = .ok (.return_, 1) := by decide +kernel
theorem dX1_moveCard_21 : decode cX1_moveCard 21 = .ok (.aload_n 0, 1) := by decide +kernel
theorem dX1_moveCard_22 : decode cX1_moveCard 22 = .ok (.getfield 9, 3) := by decide +kernel
theorem dX1_moveCard_25 : decode cX1_moveCard 25 = .ok (.iload_n 2, 1) := by decide +kernel
theorem dX1_moveCard_26 : decode cX1_moveCard 26 = .ok (.aload_n 0, 1) := by decide +kernel
theorem dX1_moveCard_27 : decode cX1_moveCard 27 = .ok (.getfield 9, 3) := by decide +kernel
theorem dX1_moveCard_30 : decode cX1_moveCard 30 = .ok (.iload_n 1, 1) := by decide +kernel
theorem dX1_moveCard_31 : decode cX1_moveCard 31 = .ok (.iaload, 1) := by decide +kernel
theorem dX1_moveCard_32 : decode cX1_moveCard 32 = .ok (.iastore, 1) := by decide +kernel
theorem dX1_moveCard_33 : decode cX1_moveCard 33 = .ok (.aload_n 0, 1) := by decide +kernel
theorem dX1_moveCard_34 : decode cX1_moveCard 34 = .ok (.getfield 15, 3) := by decide +kernel
theorem dX1_moveCard_37 : decode cX1_moveCard 37 = .ok (.iload_n 2, 1) := by decide +kernel
theorem dX1_moveCard_38 : decode cX1_moveCard 38 = .ok (.aload_n 0, 1) := by decide +kernel
theorem dX1_moveCard_39 : decode cX1_moveCard 39 = .ok (.getfield 15, 3) := by decide +kernel
theorem dX1_moveCard_42 : decode cX1_moveCard 42 = .ok (.iload_n 1, 1) := by decide +kernel
theorem dX1_moveCard_43 : decode cX1_moveCard 43 = .ok (.iaload, 1) := by decide +kernel
theorem dX1_moveCard_44 : decode cX1_moveCard 44 = .ok (.iastore, 1) := by decide +kernel
theorem dX1_moveCard_45 : decode cX1_moveCard 45 = .ok (.aload_n 0, 1) := by decide +kernel
theorem dX1_moveCard_46 : decode cX1_moveCard 46 = .ok (.getfield 18, 3) := by decide +kernel
theorem dX1_moveCard_49 : decode cX1_moveCard 49 = .ok (.iload_n 2, 1) := by decide +kernel
theorem dX1_moveCard_50 : decode cX1_moveCard 50 = .ok (.aload_n 0, 1) := by decide +kernel
theorem dX1_moveCard_51 : decode cX1_moveCard 51 = .ok (.getfield 18, 3) := by decide +kernel
theorem dX1_moveCard_54 : decode cX1_moveCard 54 = .ok (.iload_n 1, 1) := by decide +kernel
theorem dX1_moveCard_55 : decode cX1_moveCard 55 = .ok (.iaload, 1) := by decide +kernel
theorem dX1_moveCard_56 : decode cX1_moveCard 56 = .ok (.iastore, 1) := by decide +kernel
theorem dX1_moveCard_57 : decode cX1_moveCard 57 = .ok (.aload_n 0, 1) := by decide +kernel
theorem dX1_moveCard_58 : decode cX1_moveCard 58 = .ok (.getfield 21, 3) := by decide +kernel
theorem dX1_moveCard_61 : decode cX1_moveCard 61 = .ok (.iload_n 2, 1) := by decide +kernel
theorem dX1_moveCard_62 : decode cX1_moveCard 62 = .ok (.aload_n 0, 1) := by decide +kernel
theorem dX1_moveCard_63 : decode cX1_moveCard 63 = .ok (.getfield 21, 3) := by decide +kernel
theorem dX1_moveCard_66 : decode cX1_moveCard 66 = .ok (.iload_n 1, 1) := by decide +kernel
theorem dX1_moveCard_67 : decode cX1_moveCard 67 = .ok (.iaload, 1) := by decide +kernel
theorem dX1_moveCard_68 : decode cX1_moveCard 68 = .ok (.iastore, 1) := by decide +kernel
theorem dX1_moveCard_69 : decode cX1_moveCard 69 = .ok (.aload_n 0, 1) := by decide +kernel
theorem dX1_moveCard_70 : decode cX1_moveCard 70 = .ok (.getfield 24, 3) := by decide +kernel
theorem dX1_moveCard_73 : decode cX1_moveCard 73 = .ok (.iload_n 2, 1) := by decide +kernel
theorem dX1_moveCard_74 : decode cX1_moveCard 74 = .ok (.aload_n 0, 1) := by decide +kernel
theorem dX1_moveCard_75 : decode cX1_moveCard 75 = .ok (.getfield 24, 3) := by decide +kernel
theorem dX1_moveCard_78 : decode cX1_moveCard 78 = .ok (.iload_n 1, 1) := by decide +kernel
theorem dX1_moveCard_79 : decode cX1_moveCard 79 = .ok (.baload, 1) := by decide +kernel
theorem dX1_moveCard_80 : decode cX1_moveCard 80 = .ok (.bastore, 1) := by decide +kernel
theorem dX1_moveCard_81 : decode cX1_moveCard 81 = .ok (.return_, 1) := by decide +kernel
theorem dX1_sleepAt_0 : decode cX1_sleepAt 0 = .ok (.aload_n 0, 1) := by decide +kernel
theorem dX1_sleepAt_1 : decode cX1_sleepAt 1 = .ok (.iload_n 1, 1) := by decide +kernel
theorem dX1_sleepAt_2 : decode cX1_sleepAt 2 = .ok (.invokevirtual 35, 3) := by decide +kernel
theorem dX1_sleepAt_5 : decode cX1_sleepAt 5 = .ok (.ifCond .eq 10, 3) := by decide +kernel
theorem dX1_sleepAt_8 : decode cX1_sleepAt 8 = .ok (.aload_n 0, 1) := by decide +kernel
theorem dX1_sleepAt_9 : decode cX1_sleepAt 9 = .ok (.getfield 24, 3) := by decide +kernel
theorem dX1_sleepAt_12 : decode cX1_sleepAt 12 = .ok (.iload_n 1, 1) := by decide +kernel
theorem dX1_sleepAt_13 : decode cX1_sleepAt 13 = .ok (.iconst 0, 1) := by decide +kernel
theorem dX1_sleepAt_14 : decode cX1_sleepAt 14 = .ok (.bastore, 1) := by decide +kernel
theorem dX1_sleepAt_15 : decode cX1_sleepAt 15 = .ok (.return_, 1) := by decide +kernel
theorem dX1_wakeEach_0 : decode cX1_wakeEach 0 = .ok (.iconst 0, 1) := by decide +kernel
theorem dX1_wakeEach_1 : decode cX1_wakeEach 1 = .ok (.istore_n 1, 1) := by decide +kernel
theorem dX1_wakeEach_2 : decode cX1_wakeEach 2 = .ok (.iload_n 1, 1) := by decide +kernel
theorem dX1_wakeEach_3 : decode cX1_wakeEach 3 = .ok (.aload_n 0, 1) := by decide +kernel
theorem dX1_wakeEach_4 : decode cX1_wakeEach 4 = .ok (.getfield 31, 3) := by decide +kernel
theorem dX1_wakeEach_7 : decode cX1_wakeEach 7 = .ok (.if_icmp .ge 22, 3) := by decide +kernel
theorem dX1_wakeEach_10 : decode cX1_wakeEach 10 = .ok (.iload_n 1, 1) := by decide +kernel
theorem dX1_wakeEach_11 : decode cX1_wakeEach 11 = .ok (.bipush 20, 2) := by decide +kernel
theorem dX1_wakeEach_13 : decode cX1_wakeEach 13 = .ok (.if_icmp .ge 16, 3) := by decide +kernel
theorem dX1_wakeEach_16 : decode cX1_wakeEach 16 = .ok (.aload_n 0, 1) := by decide +kernel
theorem dX1_wakeEach_17 : decode cX1_wakeEach 17 = .ok (.getfield 24, 3) := by decide +kernel
theorem dX1_wakeEach_20 : decode cX1_wakeEach 20 = .ok (.iload_n 1, 1) := by decide +kernel
theorem dX1_wakeEach_21 : decode cX1_wakeEach 21 = .ok (.iconst 1, 1) := by decide +kernel
theorem dX1_wakeEach_22 : decode cX1_wakeEach 22 = .ok (.bastore, 1) := by decide +kernel
theorem dX1_wakeEach_23 : decode cX1_wakeEach 23 = .ok (.iinc 1 1, 3) := by decide +kernel
theorem dX1_wakeEach_26 : decode cX1_wakeEach 26 = .ok (.goto (-24), 3) := by decide +kernel
theorem dX1_wakeEach_29 : decode cX1_wakeEach 29 = .ok (.return_, 1) := by decide +kernel
theorem dX1_leaveAt_0 : decode cX1_leaveAt 0 = .ok (.aload_n 0, 1) := by decide +kernel
theorem dX1_leaveAt_1 : decode cX1_leaveAt 1 = .ok (.iload_n 1, 1) := by decide +kernel
theorem dX1_leaveAt_2 : decode cX1_leaveAt 2 = .ok (.invokevirtual 35, 3) := by decide +kernel
theorem dX1_leaveAt_5 : decode cX1_leaveAt 5 = .ok (.ifCond .eq 10, 3) := by decide +kernel
theorem dX1_leaveAt_8 : decode cX1_leaveAt 8 = .ok (.aload_n 0, 1) := by decide +kernel
theorem dX1_leaveAt_9 : decode cX1_leaveAt 9 = .ok (.getfield 15, 3) := by decide +kernel
theorem dX1_leaveAt_12 : decode cX1_leaveAt 12 = .ok (.iload_n 1, 1) := by decide +kernel
theorem dX1_leaveAt_13 : decode cX1_leaveAt 13 = .ok (.iload_n 2, 1) := by decide +kernel
theorem dX1_leaveAt_14 : decode cX1_leaveAt 14 = .ok (.iastore, 1) := by decide +kernel
theorem dX1_leaveAt_15 : decode cX1_leaveAt 15 = .ok (.return_, 1) := by decide +kernel
theorem dX1_tellAt_0 : decode cX1_tellAt 0 = .ok (.aload_n 0, 1) := by decide +kernel
theorem dX1_tellAt_1 : decode cX1_tellAt 1 = .ok (.iload_n 1, 1) := by decide +kernel
theorem dX1_tellAt_2 : decode cX1_tellAt 2 = .ok (.invokevirtual 35, 3) := by decide +kernel
theorem dX1_tellAt_5 : decode cX1_tellAt 5 = .ok (.ifCond .eq 13, 3) := by decide +kernel
theorem dX1_tellAt_8 : decode cX1_tellAt 8 = .ok (.aload_n 0, 1) := by decide +kernel
theorem dX1_tellAt_9 : decode cX1_tellAt 9 = .ok (.getfield 18, 3) := by decide +kernel
theorem dX1_tellAt_12 : decode cX1_tellAt 12 = .ok (.iload_n 1, 1) := by decide +kernel
theorem dX1_tellAt_13 : decode cX1_tellAt 13 = .ok (.dup2, 1) := by decide +kernel
theorem dX1_tellAt_14 : decode cX1_tellAt 14 = .ok (.iaload, 1) := by decide +kernel
theorem dX1_tellAt_15 : decode cX1_tellAt 15 = .ok (.iconst 1, 1) := by decide +kernel
theorem dX1_tellAt_16 : decode cX1_tellAt 16 = .ok (.iadd, 1) := by decide +kernel
theorem dX1_tellAt_17 : decode cX1_tellAt 17 = .ok (.iastore, 1) := by decide +kernel
theorem dX1_tellAt_18 : decode cX1_tellAt 18 = .ok (.return_, 1) := by decide +kernel
theorem dX1_slotAt_0 : decode cX1_slotAt 0 = .ok (.aload_n 0, 1) := by decide +kernel
theorem dX1_slotAt_1 : decode cX1_slotAt 1 = .ok (.iload_n 1, 1) := by decide +kernel
theorem dX1_slotAt_2 : decode cX1_slotAt 2 = .ok (.invokevirtual 35, 3) := by decide +kernel
theorem dX1_slotAt_5 : decode cX1_slotAt 5 = .ok (.ifCond .eq 10, 3) := by decide +kernel
theorem dX1_slotAt_8 : decode cX1_slotAt 8 = .ok (.aload_n 0, 1) := by decide +kernel
theorem dX1_slotAt_9 : decode cX1_slotAt 9 = .ok (.getfield 21, 3) := by decide +kernel
theorem dX1_slotAt_12 : decode cX1_slotAt 12 = .ok (.iload_n 1, 1) := by decide +kernel
theorem dX1_slotAt_13 : decode cX1_slotAt 13 = .ok (.iload_n 2, 1) := by decide +kernel
theorem dX1_slotAt_14 : decode cX1_slotAt 14 = .ok (.iastore, 1) := by decide +kernel
theorem dX1_slotAt_15 : decode cX1_slotAt 15 = .ok (.return_, 1) := by decide +kernel
theorem dX1_letAnswer_0 : decode cX1_letAnswer 0 = .ok (.iconst 0, 1) := by decide +kernel
theorem dX1_letAnswer_1 : decode cX1_letAnswer 1 = .ok (.istore_n 3, 1) := by decide +kernel
theorem dX1_letAnswer_2 : decode cX1_letAnswer 2 = .ok (.iload_n 3, 1) := by decide +kernel
theorem dX1_letAnswer_3 : decode cX1_letAnswer 3 = .ok (.aload_n 0, 1) := by decide +kernel
theorem dX1_letAnswer_4 : decode cX1_letAnswer 4 = .ok (.getfield 31, 3) := by decide +kernel
theorem dX1_letAnswer_7 : decode cX1_letAnswer 7 = .ok (.if_icmp .ge 49, 3) := by decide +kernel
theorem dX1_letAnswer_10 : decode cX1_letAnswer 10 = .ok (.iload_n 3, 1) := by decide +kernel
theorem dX1_letAnswer_11 : decode cX1_letAnswer 11 = .ok (.bipush 20, 2) := by decide +kernel
theorem dX1_letAnswer_13 : decode cX1_letAnswer 13 = .ok (.if_icmp .ge 43, 3) := by decide +kernel
theorem dX1_letAnswer_16 : decode cX1_letAnswer 16 = .ok (.aload_n 0, 1) := by decide +kernel
theorem dX1_letAnswer_17 : decode cX1_letAnswer 17 = .ok (.getfield 28, 3) := by decide +kernel
theorem dX1_letAnswer_20 : decode cX1_letAnswer 20 = .ok (.iload_n 3, 1) := by decide +kernel
theorem dX1_letAnswer_21 : decode cX1_letAnswer 21 = .ok (.aload_n 0, 1) := by decide +kernel
theorem dX1_letAnswer_22 : decode cX1_letAnswer 22 = .ok (.getfield 24, 3) := by decide +kernel
theorem dX1_letAnswer_25 : decode cX1_letAnswer 25 = .ok (.iload_n 3, 1) := by decide +kernel
theorem dX1_letAnswer_26 : decode cX1_letAnswer 26 = .ok (.baload, 1) := by decide +kernel
theorem dX1_letAnswer_27 : decode cX1_letAnswer 27 = .ok (.ifCond .eq 21, 3) := by decide +kernel
theorem dX1_letAnswer_30 : decode cX1_letAnswer 30 = .ok (.aload_n 0, 1) := by decide +kernel
theorem dX1_letAnswer_31 : decode cX1_letAnswer 31 = .ok (.getfield 9, 3) := by decide +kernel
theorem dX1_letAnswer_34 : decode cX1_letAnswer 34 = .ok (.iload_n 3, 1) := by decide +kernel
theorem dX1_letAnswer_35 : decode cX1_letAnswer 35 = .ok (.iaload, 1) := by decide +kernel
theorem dX1_letAnswer_36 : decode cX1_letAnswer 36 = .ok (.iload_n 1, 1) := by decide +kernel
theorem dX1_letAnswer_37 : decode cX1_letAnswer 37 = .ok (.invokestatic 52, 3) := by decide +kernel
theorem dX1_letAnswer_40 : decode cX1_letAnswer 40 = .ok (.iload_n 2, 1) := by decide +kernel
theorem dX1_letAnswer_41 : decode cX1_letAnswer 41 = .ok (.if_icmp .ne 7, 3) := by decide +kernel
theorem dX1_letAnswer_44 : decode cX1_letAnswer 44 = .ok (.iconst 1, 1) := by decide +kernel
theorem dX1_letAnswer_45 : decode cX1_letAnswer 45 = .ok (.goto 4, 3) := by decide +kernel
theorem dX1_letAnswer_48 : decode cX1_letAnswer 48 = .ok (.iconst 0, 1) := by decide +kernel
theorem dX1_letAnswer_49 : decode cX1_letAnswer 49 = .ok (.bastore, 1) := by decide +kernel
theorem dX1_letAnswer_50 : decode cX1_letAnswer 50 = .ok (.iinc 3 1, 3) := by decide +kernel
theorem dX1_letAnswer_53 : decode cX1_letAnswer 53 = .ok (.goto (-51), 3) := by decide +kernel
theorem dX1_letAnswer_56 : decode cX1_letAnswer 56 = .ok (.return_, 1) := by decide +kernel
theorem dX1_letAnswerIn_0 : decode cX1_letAnswerIn 0 = .ok (.iconst 0, 1) := by decide +kernel
theorem dX1_letAnswerIn_1 : decode cX1_letAnswerIn 1 = .ok (.istore_n 2, 1) := by decide +kernel
theorem dX1_letAnswerIn_2 : decode cX1_letAnswerIn 2 = .ok (.iload_n 2, 1) := by decide +kernel
theorem dX1_letAnswerIn_3 : decode cX1_letAnswerIn 3 = .ok (.aload_n 0, 1) := by decide +kernel
theorem dX1_letAnswerIn_4 : decode cX1_letAnswerIn 4 = .ok (.getfield 31, 3) := by decide +kernel
theorem dX1_letAnswerIn_7 : decode cX1_letAnswerIn 7 = .ok (.if_icmp .ge 36, 3) := by decide +kernel
theorem dX1_letAnswerIn_10 : decode cX1_letAnswerIn 10 = .ok (.iload_n 2, 1) := by decide +kernel
theorem dX1_letAnswerIn_11 : decode cX1_letAnswerIn 11 = .ok (.bipush 20, 2) := by decide +kernel
theorem dX1_letAnswerIn_13 : decode cX1_letAnswerIn 13 = .ok (.if_icmp .ge 30, 3) := by decide +kernel
theorem dX1_letAnswerIn_16 : decode cX1_letAnswerIn 16 = .ok (.aload_n 0, 1) := by decide +kernel
theorem dX1_letAnswerIn_17 : decode cX1_letAnswerIn 17 = .ok (.getfield 28, 3) := by decide +kernel
theorem dX1_letAnswerIn_20 : decode cX1_letAnswerIn 20 = .ok (.iload_n 2, 1) := by decide +kernel
theorem dX1_letAnswerIn_21 : decode cX1_letAnswerIn 21 = .ok (.aload_n 0, 1) := by decide +kernel
theorem dX1_letAnswerIn_22 : decode cX1_letAnswerIn 22 = .ok (.getfield 21, 3) := by decide +kernel
theorem dX1_letAnswerIn_25 : decode cX1_letAnswerIn 25 = .ok (.iload_n 2, 1) := by decide +kernel
theorem dX1_letAnswerIn_26 : decode cX1_letAnswerIn 26 = .ok (.iaload, 1) := by decide +kernel
theorem dX1_letAnswerIn_27 : decode cX1_letAnswerIn 27 = .ok (.iload_n 1, 1) := by decide +kernel
theorem dX1_letAnswerIn_28 : decode cX1_letAnswerIn 28 = .ok (.if_icmp .ne 7, 3) := by decide +kernel
theorem dX1_letAnswerIn_31 : decode cX1_letAnswerIn 31 = .ok (.iconst 1, 1) := by decide +kernel
theorem dX1_letAnswerIn_32 : decode cX1_letAnswerIn 32 = .ok (.goto 4, 3) := by decide +kernel
theorem dX1_letAnswerIn_35 : decode cX1_letAnswerIn 35 = .ok (.iconst 0, 1) := by decide +kernel
theorem dX1_letAnswerIn_36 : decode cX1_letAnswerIn 36 = .ok (.bastore, 1) := by decide +kernel
theorem dX1_letAnswerIn_37 : decode cX1_letAnswerIn 37 = .ok (.iinc 2 1, 3) := by decide +kernel
theorem dX1_letAnswerIn_40 : decode cX1_letAnswerIn 40 = .ok (.goto (-38), 3) := by decide +kernel
theorem dX1_letAnswerIn_43 : decode cX1_letAnswerIn 43 = .ok (.return_, 1) := by decide +kernel
theorem dX1_firstAnswering_0 : decode cX1_firstAnswering 0 = .ok (.iconst 0, 1) := by decide +kernel
theorem dX1_firstAnswering_1 : decode cX1_firstAnswering 1 = .ok (.istore_n 1, 1) := by decide +kernel
theorem dX1_firstAnswering_2 : decode cX1_firstAnswering 2 = .ok (.iload_n 1, 1) := by decide +kernel
theorem dX1_firstAnswering_3 : decode cX1_firstAnswering 3 = .ok (.aload_n 0, 1) := by decide +kernel
theorem dX1_firstAnswering_4 : decode cX1_firstAnswering 4 = .ok (.getfield 31, 3) := by decide +kernel
theorem dX1_firstAnswering_7 : decode cX1_firstAnswering 7 = .ok (.if_icmp .ge 26, 3) := by decide +kernel
theorem dX1_firstAnswering_10 : decode cX1_firstAnswering 10 = .ok (.iload_n 1, 1) := by decide +kernel
theorem dX1_firstAnswering_11 : decode cX1_firstAnswering 11 = .ok (.bipush 20, 2) := by decide +kernel
theorem dX1_firstAnswering_13 : decode cX1_firstAnswering 13 = .ok (.if_icmp .ge 20, 3) := by decide +kernel
theorem dX1_firstAnswering_16 : decode cX1_firstAnswering 16 = .ok (.aload_n 0, 1) := by decide +kernel
theorem dX1_firstAnswering_17 : decode cX1_firstAnswering 17 = .ok (.getfield 28, 3) := by decide +kernel
theorem dX1_firstAnswering_20 : decode cX1_firstAnswering 20 = .ok (.iload_n 1, 1) := by decide +kernel
theorem dX1_firstAnswering_21 : decode cX1_firstAnswering 21 = .ok (.baload, 1) := by decide +kernel
theorem dX1_firstAnswering_22 : decode cX1_firstAnswering 22 = .ok (.ifCond .eq 5, 3) := by decide +kernel
theorem dX1_firstAnswering_25 : decode cX1_firstAnswering 25 = .ok (.iload_n 1, 1) := by decide +kernel
theorem dX1_firstAnswering_26 : decode cX1_firstAnswering 26 = .ok (.ireturn, 1) := by decide +kernel
theorem dX1_firstAnswering_27 : decode cX1_firstAnswering 27 = .ok (.iinc 1 1, 3) := by decide +kernel
theorem dX1_firstAnswering_30 : decode cX1_firstAnswering 30 = .ok (.goto (-28), 3) := by decide +kernel
theorem dX1_firstAnswering_33 : decode cX1_firstAnswering 33 = .ok (.iconst (-1), 1) := by decide +kernel
theorem dX1_firstAnswering_34 : decode cX1_firstAnswering 34 = .ok (.ireturn, 1) := by decide +kernel
theorem dX1_differencesFrom_0 : decode cX1_differencesFrom 0 = .ok (.iconst 0, 1) := by decide +kernel
theorem dX1_differencesFrom_1 : decode cX1_differencesFrom 1 = .ok (.istore_n 2, 1) := by decide +kernel
theorem dX1_differencesFrom_2 : decode cX1_differencesFrom 2 = .ok (.iconst 0, 1) := by decide +kernel
theorem dX1_differencesFrom_3 : decode cX1_differencesFrom 3 = .ok (.istore_n 3, 1) := by decide +kernel
theorem dX1_differencesFrom_4 : decode cX1_differencesFrom 4 = .ok (.iload_n 3, 1) := by decide +kernel
theorem dX1_differencesFrom_5 : decode cX1_differencesFrom 5 = .ok (.aload_n 0, 1) := by decide +kernel
theorem dX1_differencesFrom_6 : decode cX1_differencesFrom 6 = .ok (.getfield 31, 3) := by decide +kernel
theorem dX1_differencesFrom_9 : decode cX1_differencesFrom 9 = .ok (.if_icmp .ge 35, 3) := by decide +kernel
theorem dX1_differencesFrom_12 : decode cX1_differencesFrom 12 = .ok (.iload_n 3, 1) := by decide +kernel
theorem dX1_differencesFrom_13 : decode cX1_differencesFrom 13 = .ok (.bipush 20, 2) := by decide +kernel
theorem dX1_differencesFrom_15 : decode cX1_differencesFrom 15 = .ok (.if_icmp .ge 29, 3) := by decide +kernel
theorem dX1_differencesFrom_18 : decode cX1_differencesFrom 18 = .ok (.aload_n 0, 1) := by decide +kernel
theorem dX1_differencesFrom_19 : decode cX1_differencesFrom 19 = .ok (.getfield 28, 3) := by decide +kernel
theorem dX1_differencesFrom_22 : decode cX1_differencesFrom 22 = .ok (.iload_n 3, 1) := by decide +kernel
theorem dX1_differencesFrom_23 : decode cX1_differencesFrom 23 = .ok (.baload, 1) := by decide +kernel
theorem dX1_differencesFrom_24 : decode cX1_differencesFrom 24 = .ok (.ifCond .eq 14, 3) := by decide +kernel
theorem dX1_differencesFrom_27 : decode cX1_differencesFrom 27 = .ok (.iload_n 2, 1) := by decide +kernel
theorem dX1_differencesFrom_28 : decode cX1_differencesFrom 28 = .ok (.aload_n 0, 1) := by decide +kernel
theorem dX1_differencesFrom_29 : decode cX1_differencesFrom 29 = .ok (.getfield 9, 3) := by decide +kernel
theorem dX1_differencesFrom_32 : decode cX1_differencesFrom 32 = .ok (.iload_n 3, 1) := by decide +kernel
theorem dX1_differencesFrom_33 : decode cX1_differencesFrom 33 = .ok (.iaload, 1) := by decide +kernel
theorem dX1_differencesFrom_34 : decode cX1_differencesFrom 34 = .ok (.iload_n 1, 1) := by decide +kernel
theorem dX1_differencesFrom_35 : decode cX1_differencesFrom 35 = .ok (.ixor, 1) := by decide +kernel
theorem dX1_differencesFrom_36 : decode cX1_differencesFrom 36 = .ok (.ior, 1) := by decide +kernel
theorem dX1_differencesFrom_37 : decode cX1_differencesFrom 37 = .ok (.istore_n 2, 1) := by decide +kernel
theorem dX1_differencesFrom_38 : decode cX1_differencesFrom 38 = .ok (.iinc 3 1, 3) := by decide +kernel
theorem dX1_differencesFrom_41 : decode cX1_differencesFrom 41 = .ok (.goto (-37), 3) := by decide +kernel
theorem dX1_differencesFrom_44 : decode cX1_differencesFrom 44 = .ok (.iload_n 2, 1) := by decide +kernel
theorem dX1_differencesFrom_45 : decode cX1_differencesFrom 45 = .ok (.ireturn, 1) := by decide +kernel
theorem dX1_passAsk_0 : decode cX1_passAsk 0 = .ok (.iconst 0, 1) := by decide +kernel
theorem dX1_passAsk_1 : decode cX1_passAsk 1 = .ok (.istore_n 1, 1) := by decide +kernel
theorem dX1_passAsk_2 : decode cX1_passAsk 2 = .ok (.iconst 0, 1) := by decide +kernel
theorem dX1_passAsk_3 : decode cX1_passAsk 3 = .ok (.istore_n 2, 1) := by decide +kernel
theorem dX1_passAsk_4 : decode cX1_passAsk 4 = .ok (.iload_n 2, 1) := by decide +kernel
theorem dX1_passAsk_5 : decode cX1_passAsk 5 = .ok (.aload_n 0, 1) := by decide +kernel
theorem dX1_passAsk_6 : decode cX1_passAsk 6 = .ok (.getfield 31, 3) := by decide +kernel
theorem dX1_passAsk_9 : decode cX1_passAsk 9 = .ok (.if_icmp .ge 54, 3) := by decide +kernel
theorem dX1_passAsk_12 : decode cX1_passAsk 12 = .ok (.iload_n 2, 1) := by decide +kernel
theorem dX1_passAsk_13 : decode cX1_passAsk 13 = .ok (.bipush 20, 2) := by decide +kernel
theorem dX1_passAsk_15 : decode cX1_passAsk 15 = .ok (.if_icmp .ge 48, 3) := by decide +kernel
theorem dX1_passAsk_18 : decode cX1_passAsk 18 = .ok (.aload_n 0, 1) := by decide +kernel
theorem dX1_passAsk_19 : decode cX1_passAsk 19 = .ok (.getfield 15, 3) := by decide +kernel
theorem dX1_passAsk_22 : decode cX1_passAsk 22 = .ok (.iload_n 2, 1) := by decide +kernel
theorem dX1_passAsk_23 : decode cX1_passAsk 23 = .ok (.iaload, 1) := by decide +kernel
theorem dX1_passAsk_24 : decode cX1_passAsk 24 = .ok (.istore_n 3, 1) := by decide +kernel
theorem dX1_passAsk_25 : decode cX1_passAsk 25 = .ok (.iload_n 3, 1) := by decide +kernel
theorem dX1_passAsk_26 : decode cX1_passAsk 26 = .ok (.ifCond .le 12, 3) := by decide +kernel
theorem dX1_passAsk_29 : decode cX1_passAsk 29 = .ok (.aload_n 0, 1) := by decide +kernel
theorem dX1_passAsk_30 : decode cX1_passAsk 30 = .ok (.getfield 15, 3) := by decide +kernel
theorem dX1_passAsk_33 : decode cX1_passAsk 33 = .ok (.iload_n 2, 1) := by decide +kernel
theorem dX1_passAsk_34 : decode cX1_passAsk 34 = .ok (.iload_n 3, 1) := by decide +kernel
theorem dX1_passAsk_35 : decode cX1_passAsk 35 = .ok (.iconst 1, 1) := by decide +kernel
theorem dX1_passAsk_36 : decode cX1_passAsk 36 = .ok (.isub, 1) := by decide +kernel
theorem dX1_passAsk_37 : decode cX1_passAsk 37 = .ok (.iastore, 1) := by decide +kernel
theorem dX1_passAsk_38 : decode cX1_passAsk 38 = .ok (.iload_n 3, 1) := by decide +kernel
theorem dX1_passAsk_39 : decode cX1_passAsk 39 = .ok (.iconst 1, 1) := by decide +kernel
theorem dX1_passAsk_40 : decode cX1_passAsk 40 = .ok (.if_icmp .eq 17, 3) := by decide +kernel
theorem dX1_passAsk_43 : decode cX1_passAsk 43 = .ok (.iload_n 1, 1) := by decide +kernel
theorem dX1_passAsk_44 : decode cX1_passAsk 44 = .ok (.iload_n 2, 1) := by decide +kernel
theorem dX1_passAsk_45 : decode cX1_passAsk 45 = .ok (.if_icmp .ge 9, 3) := by decide +kernel
theorem dX1_passAsk_48 : decode cX1_passAsk 48 = .ok (.aload_n 0, 1) := by decide +kernel
theorem dX1_passAsk_49 : decode cX1_passAsk 49 = .ok (.iload_n 2, 1) := by decide +kernel
theorem dX1_passAsk_50 : decode cX1_passAsk 50 = .ok (.iload_n 1, 1) := by decide +kernel
theorem dX1_passAsk_51 : decode cX1_passAsk 51 = .ok (.invokevirtual 55, 3) := by decide +kernel
theorem dX1_passAsk_54 : decode cX1_passAsk 54 = .ok (.iinc 1 1, 3) := by decide +kernel
theorem dX1_passAsk_57 : decode cX1_passAsk 57 = .ok (.iinc 2 1, 3) := by decide +kernel
theorem dX1_passAsk_60 : decode cX1_passAsk 60 = .ok (.goto (-56), 3) := by decide +kernel
theorem dX1_passAsk_63 : decode cX1_passAsk 63 = .ok (.aload_n 0, 1) := by decide +kernel
theorem dX1_passAsk_64 : decode cX1_passAsk 64 = .ok (.iload_n 1, 1) := by decide +kernel
theorem dX1_passAsk_65 : decode cX1_passAsk 65 = .ok (.putfield 31, 3) := by decide +kernel
theorem dX1_passAsk_68 : decode cX1_passAsk 68 = .ok (.iload_n 2, 1) := by decide +kernel
theorem dX1_passAsk_69 : decode cX1_passAsk 69 = .ok (.iload_n 1, 1) := by decide +kernel
theorem dX1_passAsk_70 : decode cX1_passAsk 70 = .ok (.isub, 1) := by decide +kernel
theorem dX1_passAsk_71 : decode cX1_passAsk 71 = .ok (.ireturn, 1) := by decide +kernel
theorem dX2_init_0 : decode cX2_init 0 = .ok (.aload_n 0, 1) := by decide +kernel
theorem dX2_init_1 : decode cX2_init 1 = .ok (.invokespecial 3, 3) := by decide +kernel
theorem dX2_init_4 : decode cX2_init 4 = .ok (.aload_n 0, 1) := by decide +kernel
theorem dX2_init_5 : decode cX2_init 5 = .ok (.new 9, 3) := by decide +kernel
theorem dX2_init_8 : decode cX2_init 8 = .ok (.dup, 1) := by decide +kernel
theorem dX2_init_9 : decode cX2_init 9 = .ok (.invokespecial 11, 3) := by decide +kernel
theorem dX2_init_12 : decode cX2_init 12 = .ok (.putfield 12, 3) := by decide +kernel
theorem dX2_init_15 : decode cX2_init 15 = .ok (.aload_n 0, 1) := by decide +kernel
theorem dX2_init_16 : decode cX2_init 16 = .ok (.new 18, 3) := by decide +kernel
theorem dX2_init_19 : decode cX2_init 19 = .ok (.dup, 1) := by decide +kernel
theorem dX2_init_20 : decode cX2_init 20 = .ok (.invokespecial 20, 3) := by decide +kernel
theorem dX2_init_23 : decode cX2_init 23 = .ok (.putfield 21, 3) := by decide +kernel
theorem dX2_init_26 : decode cX2_init 26 = .ok (.aload_n 0, 1) := by decide +kernel
theorem dX2_init_27 : decode cX2_init 27 = .ok (.new 25, 3) := by decide +kernel
theorem dX2_init_30 : decode cX2_init 30 = .ok (.dup, 1) := by decide +kernel
theorem dX2_init_31 : decode cX2_init 31 = .ok (.invokespecial 27, 3) := by decide +kernel
theorem dX2_init_34 : decode cX2_init 34 = .ok (.putfield 28, 3) := by decide +kernel
theorem dX2_init_37 : decode cX2_init 37 = .ok (.aload_n 0, 1) := by decide +kernel
theorem dX2_init_38 : decode cX2_init 38 = .ok (.iconst 2, 1) := by decide +kernel
theorem dX2_init_39 : decode cX2_init 39 = .ok (.newarray .int, 2) := by decide +kernel
theorem dX2_init_41 : decode cX2_init 41 = .ok (.putfield 32, 3) := by decide +kernel
theorem dX2_init_44 : decode cX2_init 44 = .ok (.aload_n 0, 1) := by decide +kernel
theorem dX2_init_45 : decode cX2_init 45 = .ok (.iconst 1, 1) := by decide +kernel
theorem dX2_init_46 : decode cX2_init 46 = .ok (.putfield 36, 3) := by decide +kernel
theorem dX2_init_49 : decode cX2_init 49 = .ok (.aload_n 0, 1) := by decide +kernel
theorem dX2_init_50 : decode cX2_init 50 = .ok (.iconst 0, 1) := by decide +kernel
theorem dX2_init_51 : decode cX2_init 51 = .ok (.putfield 40, 3) := by decide +kernel
theorem dX2_init_54 : decode cX2_init 54 = .ok (.aload_n 0, 1) := by decide +kernel
theorem dX2_init_55 : decode cX2_init 55 = .ok (.iconst 0, 1) := by decide +kernel
theorem dX2_init_56 : decode cX2_init 56 = .ok (.putfield 43, 3) := by decide +kernel
theorem dX2_init_59 : decode cX2_init 59 = .ok (.aload_n 0, 1) := by decide +kernel
theorem dX2_init_60 : decode cX2_init 60 = .ok (.getfield 32, 3) := by decide +kernel
theorem dX2_init_63 : decode cX2_init 63 = .ok (.iconst 0, 1) := by decide +kernel
theorem dX2_init_64 : decode cX2_init 64 = .ok (.iconst 1, 1) := by decide +kernel
theorem dX2_init_65 : decode cX2_init 65 = .ok (.iastore, 1) := by decide +kernel
theorem dX2_init_66 : decode cX2_init 66 = .ok (.return_, 1) := by decide +kernel
theorem dX2_copyFrom_0 : decode cX2_copyFrom 0 = .ok (.aload_n 1, 1) := by decide +kernel
theorem dX2_copyFrom_1 : decode cX2_copyFrom 1 = .ok (.ifnonnull 4, 3) := by decide +kernel
theorem dX2_copyFrom_4 : decode cX2_copyFrom 4 = .ok (.return_, 1) := by decide +kernel
theorem dX2_copyFrom_5 : decode cX2_copyFrom 5 = .ok (.aload_n 0, 1) := by decide +kernel
theorem dX2_copyFrom_6 : decode cX2_copyFrom 6 = .ok (.getfield 12, 3) := by decide +kernel
theorem dX2_copyFrom_9 : decode cX2_copyFrom 9 = .ok (.aload_n 1, 1) := by decide +kernel
theorem dX2_copyFrom_10 : decode cX2_copyFrom 10 = .ok (.getfield 12, 3) := by decide +kernel
theorem dX2_copyFrom_13 : decode cX2_copyFrom 13 = .ok (.invokevirtual 46, 3) := by decide +kernel
theorem dX2_copyFrom_16 : decode cX2_copyFrom 16 = .ok (.aload_n 0, 1) := by decide +kernel
theorem dX2_copyFrom_17 : decode cX2_copyFrom 17 = .ok (.getfield 21, 3) := by decide +kernel
theorem dX2_copyFrom_20 : decode cX2_copyFrom 20 = .ok (.aload_n 1, 1) := by decide +kernel
theorem dX2_copyFrom_21 : decode cX2_copyFrom 21 = .ok (.getfield 21, 3) := by decide +kernel
theorem dX2_copyFrom_24 : decode cX2_copyFrom 24 = .ok (.invokevirtual 50, 3) := by decide +kernel
theorem dX2_copyFrom_27 : decode cX2_copyFrom 27 = .ok (.aload_n 0, 1) := by decide +kernel
theorem dX2_copyFrom_28 : decode cX2_copyFrom 28 = .ok (.getfield 28, 3) := by decide +kernel
theorem dX2_copyFrom_31 : decode cX2_copyFrom 31 = .ok (.aload_n 1, 1) := by decide +kernel
theorem dX2_copyFrom_32 : decode cX2_copyFrom 32 = .ok (.getfield 28, 3) := by decide +kernel
theorem dX2_copyFrom_35 : decode cX2_copyFrom 35 = .ok (.invokevirtual 53, 3) := by decide +kernel
theorem dX2_copyFrom_38 : decode cX2_copyFrom 38 = .ok (.aload_n 1, 1) := by decide +kernel
theorem dX2_copyFrom_39 : decode cX2_copyFrom 39 = .ok (.getfield 32, 3) := by decide +kernel
theorem dX2_copyFrom_42 : decode cX2_copyFrom 42 = .ok (.iconst 0, 1) := by decide +kernel
theorem dX2_copyFrom_43 : decode cX2_copyFrom 43 = .ok (.aload_n 0, 1) := by decide +kernel
theorem dX2_copyFrom_44 : decode cX2_copyFrom 44 = .ok (.getfield 32, 3) := by decide +kernel
theorem dX2_copyFrom_47 : decode cX2_copyFrom 47 = .ok (.iconst 0, 1) := by decide +kernel
theorem dX2_copyFrom_48 : decode cX2_copyFrom 48 = .ok (.iconst 2, 1) := by decide +kernel
theorem dX2_copyFrom_49 : decode cX2_copyFrom 49 = .ok (.invokestatic 56, 3) := by decide +kernel
theorem dX2_copyFrom_52 : decode cX2_copyFrom 52 = .ok (.aload_n 0, 1) := by decide +kernel
theorem dX2_copyFrom_53 : decode cX2_copyFrom 53 = .ok (.aload_n 1, 1) := by decide +kernel
theorem dX2_copyFrom_54 : decode cX2_copyFrom 54 = .ok (.getfield 36, 3) := by decide +kernel
theorem dX2_copyFrom_57 : decode cX2_copyFrom 57 = .ok (.putfield 36, 3) := by decide +kernel
theorem dX2_copyFrom_60 : decode cX2_copyFrom 60 = .ok (.return_, 1) := by decide +kernel
theorem dX2_putCard_0 : decode cX2_putCard 0 = .ok (.iload_n 1, 1) := by decide +kernel
theorem dX2_putCard_1 : decode cX2_putCard 1 = .ok (.ifCond .lt 10, 3) := by decide +kernel
theorem dX2_putCard_4 : decode cX2_putCard 4 = .ok (.iload_n 1, 1) := by decide +kernel
theorem dX2_putCard_5 : decode cX2_putCard 5 = .ok (.sipush 255, 3) := by decide +kernel
theorem dX2_putCard_8 : decode cX2_putCard 8 = .ok (.if_icmp .le 6, 3) := by decide +kernel
theorem dX2_putCard_11 : decode cX2_putCard 11 = .ok (.bipush (-2), 2) := by decide +kernel
theorem dX2_putCard_13 : decode cX2_putCard 13 = .ok (.ireturn, 1) := by decide +kernel
theorem dX2_putCard_14 : decode cX2_putCard 14 = .ok (.aload_n 0, 1) := by decide +kernel
theorem dX2_putCard_15 : decode cX2_putCard 15 = .ok (.getfield 12, 3) := by decide +kernel
theorem dX2_putCard_18 : decode cX2_putCard 18 = .ok (.iload_n 1, 1) := by decide +kernel
theorem dX2_putCard_19 : decode cX2_putCard 19 = .ok (.invokevirtual 62, 3) := by decide +kernel
theorem dX2_putCard_22 : decode cX2_putCard 22 = .ok (.iconst (-1), 1) := by decide +kernel
theorem dX2_putCard_23 : decode cX2_putCard 23 = .ok (.if_icmp .eq 6, 3) := by decide +kernel
theorem dX2_putCard_26 : decode cX2_putCard 26 = .ok (.bipush (-4), 2) := by decide +kernel
theorem dX2_putCard_28 : decode cX2_putCard 28 = .ok (.ireturn, 1) := by decide +kernel
theorem dX2_putCard_29 : decode cX2_putCard 29 = .ok (.aload_n 0, 1) := by decide +kernel
theorem dX2_putCard_30 : decode cX2_putCard 30 = .ok (.getfield 12, 3) := by decide +kernel
theorem dX2_putCard_33 : decode cX2_putCard 33 = .ok (.invokevirtual 66, 3) := by decide +kernel
theorem dX2_putCard_36 : decode cX2_putCard 36 = .ok (.bipush 20, 2) := by decide +kernel
theorem dX2_putCard_38 : decode cX2_putCard 38 = .ok (.if_icmp .lt 6, 3) := by decide +kernel
theorem dX2_putCard_41 : decode cX2_putCard 41 = .ok (.bipush (-3), 2) := by decide +kernel
theorem dX2_putCard_43 : decode cX2_putCard 43 = .ok (.ireturn, 1) := by decide +kernel
theorem dX2_putCard_44 : decode cX2_putCard 44 = .ok (.aload_n 0, 1) := by decide +kernel
theorem dX2_putCard_45 : decode cX2_putCard 45 = .ok (.getfield 12, 3) := by decide +kernel
theorem dX2_putCard_48 : decode cX2_putCard 48 = .ok (.iload_n 1, 1) := by decide +kernel
theorem dX2_putCard_49 : decode cX2_putCard 49 = .ok (.invokevirtual 70, 3) := by decide +kernel
theorem dX2_putCard_52 : decode cX2_putCard 52 = .ok (.aload_n 0, 1) := by decide +kernel
theorem dX2_putCard_53 : decode cX2_putCard 53 = .ok (.getfield 12, 3) := by decide +kernel
theorem dX2_putCard_56 : decode cX2_putCard 56 = .ok (.invokevirtual 66, 3) := by decide +kernel
theorem dX2_putCard_59 : decode cX2_putCard 59 = .ok (.ireturn, 1) := by decide +kernel
theorem dX2_takeCard_0 : decode cX2_takeCard 0 = .ok (.aload_n 0, 1) := by decide +kernel
theorem dX2_takeCard_1 : decode cX2_takeCard 1 = .ok (.getfield 12, 3) := by decide +kernel
theorem dX2_takeCard_4 : decode cX2_takeCard 4 = .ok (.iload_n 1, 1) := by decide +kernel
theorem dX2_takeCard_5 : decode cX2_takeCard 5 = .ok (.invokevirtual 62, 3) := by decide +kernel
theorem dX2_takeCard_8 : decode cX2_takeCard 8 = .ok (.istore_n 2, 1) := by decide +kernel
theorem dX2_takeCard_9 : decode cX2_takeCard 9 = .ok (.iload_n 2, 1) := by decide +kernel
theorem dX2_takeCard_10 : decode cX2_takeCard 10 = .ok (.iconst (-1), 1) := by decide +kernel
theorem dX2_takeCard_11 : decode cX2_takeCard 11 = .ok (.if_icmp .ne 5, 3) := by decide +kernel
theorem dX2_takeCard_14 : decode cX2_takeCard 14 = .ok (.iconst (-1), 1) := by decide +kernel
theorem dX2_takeCard_15 : decode cX2_takeCard 15 = .ok (.ireturn, 1) := by decide +kernel
theorem dX2_takeCard_16 : decode cX2_takeCard 16 = .ok (.aload_n 0, 1) := by decide +kernel
theorem dX2_takeCard_17 : decode cX2_takeCard 17 = .ok (.getfield 12, 3) := by decide +kernel
theorem dX2_takeCard_20 : decode cX2_takeCard 20 = .ok (.iload_n 2, 1) := by decide +kernel
theorem dX2_takeCard_21 : decode cX2_takeCard 21 = .ok (.invokevirtual 74, 3) := by decide +kernel
theorem dX2_takeCard_24 : decode cX2_takeCard 24 = .ok (.aload_n 0, 1) := by decide +kernel
theorem dX2_takeCard_25 : decode cX2_takeCard 25 = .ok (.getfield 12, 3) := by decide +kernel
theorem dX2_takeCard_28 : decode cX2_takeCard 28 = .ok (.invokevirtual 66, 3) := by decide +kernel
theorem dX2_takeCard_31 : decode cX2_takeCard 31 = .ok (.ireturn, 1) := by decide +kernel
theorem dX2_sleepCard_0 : decode cX2_sleepCard 0 = .ok (.aload_n 0, 1) := by decide +kernel
theorem dX2_sleepCard_1 : decode cX2_sleepCard 1 = .ok (.getfield 12, 3) := by decide +kernel
theorem dX2_sleepCard_4 : decode cX2_sleepCard 4 = .ok (.iload_n 1, 1) := by decide +kernel
theorem dX2_sleepCard_5 : decode cX2_sleepCard 5 = .ok (.invokevirtual 62, 3) := by decide +kernel
theorem dX2_sleepCard_8 : decode cX2_sleepCard 8 = .ok (.istore_n 2, 1) := by decide +kernel
theorem dX2_sleepCard_9 : decode cX2_sleepCard 9 = .ok (.iload_n 2, 1) := by decide +kernel
theorem dX2_sleepCard_10 : decode cX2_sleepCard 10 = .ok (.iconst (-1), 1) := by decide +kernel
theorem dX2_sleepCard_11 : decode cX2_sleepCard 11 = .ok (.if_icmp .ne 5, 3) := by decide +kernel
theorem dX2_sleepCard_14 : decode cX2_sleepCard 14 = .ok (.iconst (-1), 1) := by decide +kernel
theorem dX2_sleepCard_15 : decode cX2_sleepCard 15 = .ok (.ireturn, 1) := by decide +kernel
theorem dX2_sleepCard_16 : decode cX2_sleepCard 16 = .ok (.aload_n 0, 1) := by decide +kernel
theorem dX2_sleepCard_17 : decode cX2_sleepCard 17 = .ok (.getfield 12, 3) := by decide +kernel
theorem dX2_sleepCard_20 : decode cX2_sleepCard 20 = .ok (.iload_n 2, 1) := by decide +kernel
theorem dX2_sleepCard_21 : decode cX2_sleepCard 21 = .ok (.invokevirtual 77, 3) := by decide +kernel
theorem dX2_sleepCard_24 : decode cX2_sleepCard 24 = .ok (.ifCond .ne 6, 3) := by decide +kernel
theorem dX2_sleepCard_27 : decode cX2_sleepCard 27 = .ok (.bipush (-5), 2) := by decide +kernel
theorem dX2_sleepCard_29 : decode cX2_sleepCard 29 = .ok (.ireturn, 1) := by decide +kernel
theorem dX2_sleepCard_30 : decode cX2_sleepCard 30 = .ok (.aload_n 0, 1) := by decide +kernel
theorem dX2_sleepCard_31 : decode cX2_sleepCard 31 = .ok (.getfield 12, 3) := by decide +kernel
theorem dX2_sleepCard_34 : decode cX2_sleepCard 34 = .ok (.iload_n 2, 1) := by decide +kernel
theorem dX2_sleepCard_35 : decode cX2_sleepCard 35 = .ok (.invokevirtual 81, 3) := by decide +kernel
theorem dX2_sleepCard_38 : decode cX2_sleepCard 38 = .ok (.aload_n 0, 1) := by decide +kernel
theorem dX2_sleepCard_39 : decode cX2_sleepCard 39 = .ok (.getfield 12, 3) := by decide +kernel
theorem dX2_sleepCard_42 : decode cX2_sleepCard 42 = .ok (.invokevirtual 84, 3) := by decide +kernel
theorem dX2_sleepCard_45 : decode cX2_sleepCard 45 = .ok (.ireturn, 1) := by decide +kernel
theorem dX2_wakeCards_0 : decode cX2_wakeCards 0 = .ok (.aload_n 0, 1) := by decide +kernel
theorem dX2_wakeCards_1 : decode cX2_wakeCards 1 = .ok (.getfield 12, 3) := by decide +kernel
theorem dX2_wakeCards_4 : decode cX2_wakeCards 4 = .ok (.invokevirtual 66, 3) := by decide +kernel
theorem dX2_wakeCards_7 : decode cX2_wakeCards 7 = .ok (.aload_n 0, 1) := by decide +kernel
theorem dX2_wakeCards_8 : decode cX2_wakeCards 8 = .ok (.getfield 12, 3) := by decide +kernel
theorem dX2_wakeCards_11 : decode cX2_wakeCards 11 = .ok (.invokevirtual 84, 3) := by decide +kernel
theorem dX2_wakeCards_14 : decode cX2_wakeCards 14 = .ok (.isub, 1) := by decide +kernel
theorem dX2_wakeCards_15 : decode cX2_wakeCards 15 = .ok (.istore_n 1, 1) := by decide +kernel
theorem dX2_wakeCards_16 : decode cX2_wakeCards 16 = .ok (.iload_n 1, 1) := by decide +kernel
theorem dX2_wakeCards_17 : decode cX2_wakeCards 17 = .ok (.ifCond .ne 6, 3) := by decide +kernel
theorem dX2_wakeCards_20 : decode cX2_wakeCards 20 = .ok (.bipush (-5), 2) := by decide +kernel
theorem dX2_wakeCards_22 : decode cX2_wakeCards 22 = .ok (.ireturn, 1) := by decide +kernel
theorem dX2_wakeCards_23 : decode cX2_wakeCards 23 = .ok (.aload_n 0, 1) := by decide +kernel
theorem dX2_wakeCards_24 : decode cX2_wakeCards 24 = .ok (.getfield 12, 3) := by decide +kernel
theorem dX2_wakeCards_27 : decode cX2_wakeCards 27 = .ok (.invokevirtual 87, 3) := by decide +kernel
theorem dX2_wakeCards_30 : decode cX2_wakeCards 30 = .ok (.iload_n 1, 1) := by decide +kernel
theorem dX2_wakeCards_31 : decode cX2_wakeCards 31 = .ok (.ireturn, 1) := by decide +kernel
theorem dX2_leaveBehind_0 : decode cX2_leaveBehind 0 = .ok (.aload_n 0, 1) := by decide +kernel
theorem dX2_leaveBehind_1 : decode cX2_leaveBehind 1 = .ok (.getfield 12, 3) := by decide +kernel
theorem dX2_leaveBehind_4 : decode cX2_leaveBehind 4 = .ok (.iload_n 1, 1) := by decide +kernel
theorem dX2_leaveBehind_5 : decode cX2_leaveBehind 5 = .ok (.invokevirtual 62, 3) := by decide +kernel
theorem dX2_leaveBehind_8 : decode cX2_leaveBehind 8 = .ok (.istore_n 3, 1) := by decide +kernel
theorem dX2_leaveBehind_9 : decode cX2_leaveBehind 9 = .ok (.iload_n 3, 1) := by decide +kernel
theorem dX2_leaveBehind_10 : decode cX2_leaveBehind 10 = .ok (.iconst (-1), 1) := by decide +kernel
theorem dX2_leaveBehind_11 : decode cX2_leaveBehind 11 = .ok (.if_icmp .ne 5, 3) := by decide +kernel
theorem dX2_leaveBehind_14 : decode cX2_leaveBehind 14 = .ok (.iconst (-1), 1) := by decide +kernel
theorem dX2_leaveBehind_15 : decode cX2_leaveBehind 15 = .ok (.ireturn, 1) := by decide +kernel
theorem dX2_leaveBehind_16 : decode cX2_leaveBehind 16 = .ok (.iload_n 2, 1) := by decide +kernel
theorem dX2_leaveBehind_17 : decode cX2_leaveBehind 17 = .ok (.ifCond .lt 10, 3) := by decide +kernel
theorem dX2_leaveBehind_20 : decode cX2_leaveBehind 20 = .ok (.iload_n 2, 1) := by decide +kernel
theorem dX2_leaveBehind_21 : decode cX2_leaveBehind 21 = .ok (.sipush 200, 3) := by decide +kernel
theorem dX2_leaveBehind_24 : decode cX2_leaveBehind 24 = .ok (.if_icmp .le 6, 3) := by decide +kernel
theorem dX2_leaveBehind_27 : decode cX2_leaveBehind 27 = .ok (.bipush (-2), 2) := by decide +kernel
theorem dX2_leaveBehind_29 : decode cX2_leaveBehind 29 = .ok (.ireturn, 1) := by decide +kernel
theorem dX2_leaveBehind_30 : decode cX2_leaveBehind 30 = .ok (.aload_n 0, 1) := by decide +kernel
theorem dX2_leaveBehind_31 : decode cX2_leaveBehind 31 = .ok (.getfield 12, 3) := by decide +kernel
theorem dX2_leaveBehind_34 : decode cX2_leaveBehind 34 = .ok (.iload_n 3, 1) := by decide +kernel
theorem dX2_leaveBehind_35 : decode cX2_leaveBehind 35 = .ok (.invokevirtual 90, 3) := by decide +kernel
theorem dX2_leaveBehind_38 : decode cX2_leaveBehind 38 = .ok (.istore 4, 2) := by decide +kernel
theorem dX2_leaveBehind_40 : decode cX2_leaveBehind 40 = .ok (.iload 4, 2) := by decide +kernel
theorem dX2_leaveBehind_42 : decode cX2_leaveBehind 42 = .ok (.iload_n 2, 1) := by decide +kernel
theorem dX2_leaveBehind_43 : decode cX2_leaveBehind 43 = .ok (.if_icmp .ne 6, 3) := by decide +kernel
theorem dX2_leaveBehind_46 : decode cX2_leaveBehind 46 = .ok (.bipush (-5), 2) := by decide +kernel
theorem dX2_leaveBehind_48 : decode cX2_leaveBehind 48 = .ok (.ireturn, 1) := by decide +kernel
theorem dX2_leaveBehind_49 : decode cX2_leaveBehind 49 = .ok (.aload_n 0, 1) := by decide +kernel
theorem dX2_leaveBehind_50 : decode cX2_leaveBehind 50 = .ok (.getfield 12, 3) := by decide +kernel
theorem dX2_leaveBehind_53 : decode cX2_leaveBehind 53 = .ok (.iload_n 3, 1) := by decide +kernel
theorem dX2_leaveBehind_54 : decode cX2_leaveBehind 54 = .ok (.iload_n 2, 1) := by decide +kernel
theorem dX2_leaveBehind_55 : decode cX2_leaveBehind 55 = .ok (.invokevirtual 93, 3) := by decide +kernel
theorem dX2_leaveBehind_58 : decode cX2_leaveBehind 58 = .ok (.iload 4, 2) := by decide +kernel
theorem dX2_leaveBehind_60 : decode cX2_leaveBehind 60 = .ok (.ireturn, 1) := by decide +kernel
theorem dX2_setTo_0 : decode cX2_setTo 0 = .ok (.iload_n 1, 1) := by decide +kernel
theorem dX2_setTo_1 : decode cX2_setTo 1 = .ok (.ifCond .lt 8, 3) := by decide +kernel
theorem dX2_setTo_4 : decode cX2_setTo 4 = .ok (.iload_n 1, 1) := by decide +kernel
theorem dX2_setTo_5 : decode cX2_setTo 5 = .ok (.iconst 2, 1) := by decide +kernel
theorem dX2_setTo_6 : decode cX2_setTo 6 = .ok (.if_icmp .lt 5, 3) := by decide +kernel
theorem dX2_setTo_9 : decode cX2_setTo 9 = .ok (.iconst (-1), 1) := by decide +kernel
theorem dX2_setTo_10 : decode cX2_setTo 10 = .ok (.ireturn, 1) := by decide +kernel
theorem dX2_setTo_11 : decode cX2_setTo 11 = .ok (.iload_n 1, 1) := by decide +kernel
theorem dX2_setTo_12 : decode cX2_setTo 12 = .ok (.ifCond .ne 7, 3) := by decide +kernel
theorem dX2_setTo_15 : decode cX2_setTo 15 = .ok (.iconst 1, 1) := by decide +kernel
theorem dX2_setTo_16 : decode cX2_setTo 16 = .ok (.goto 4, 3) := by decide +kernel
theorem dX2_setTo_19 : decode cX2_setTo 19 = .ok (.iconst 2, 1) := by decide +kernel
theorem dX2_setTo_20 : decode cX2_setTo 20 = .ok (.istore_n 3, 1) := by decide +kernel
theorem dX2_setTo_21 : decode cX2_setTo 21 = .ok (.iload_n 2, 1) := by decide +kernel
theorem dX2_setTo_22 : decode cX2_setTo 22 = .ok (.ifCond .lt 8, 3) := by decide +kernel
theorem dX2_setTo_25 : decode cX2_setTo 25 = .ok (.iload_n 2, 1) := by decide +kernel
theorem dX2_setTo_26 : decode cX2_setTo 26 = .ok (.iload_n 3, 1) := by decide +kernel
theorem dX2_setTo_27 : decode cX2_setTo 27 = .ok (.if_icmp .le 6, 3) := by decide +kernel
theorem dX2_setTo_30 : decode cX2_setTo 30 = .ok (.bipush (-2), 2) := by decide +kernel
theorem dX2_setTo_32 : decode cX2_setTo 32 = .ok (.ireturn, 1) := by decide +kernel
theorem dX2_setTo_33 : decode cX2_setTo 33 = .ok (.aload_n 0, 1) := by decide +kernel
theorem dX2_setTo_34 : decode cX2_setTo 34 = .ok (.getfield 32, 3) := by decide +kernel
theorem dX2_setTo_37 : decode cX2_setTo 37 = .ok (.iload_n 1, 1) := by decide +kernel
theorem dX2_setTo_38 : decode cX2_setTo 38 = .ok (.iaload, 1) := by decide +kernel
theorem dX2_setTo_39 : decode cX2_setTo 39 = .ok (.istore 4, 2) := by decide +kernel
theorem dX2_setTo_41 : decode cX2_setTo 41 = .ok (.iload 4, 2) := by decide +kernel
theorem dX2_setTo_43 : decode cX2_setTo 43 = .ok (.iload_n 2, 1) := by decide +kernel
theorem dX2_setTo_44 : decode cX2_setTo 44 = .ok (.if_icmp .ne 6, 3) := by decide +kernel
theorem dX2_setTo_47 : decode cX2_setTo 47 = .ok (.bipush (-5), 2) := by decide +kernel
theorem dX2_setTo_49 : decode cX2_setTo 49 = .ok (.ireturn, 1) := by decide +kernel
theorem dX2_setTo_50 : decode cX2_setTo 50 = .ok (.aload_n 0, 1) := by decide +kernel
theorem dX2_setTo_51 : decode cX2_setTo 51 = .ok (.getfield 32, 3) := by decide +kernel
theorem dX2_setTo_54 : decode cX2_setTo 54 = .ok (.iload_n 1, 1) := by decide +kernel
theorem dX2_setTo_55 : decode cX2_setTo 55 = .ok (.iload_n 2, 1) := by decide +kernel
theorem dX2_setTo_56 : decode cX2_setTo 56 = .ok (.iastore, 1) := by decide +kernel
theorem dX2_setTo_57 : decode cX2_setTo 57 = .ok (.iload 4, 2) := by decide +kernel
theorem dX2_setTo_59 : decode cX2_setTo 59 = .ok (.ireturn, 1) := by decide +kernel
theorem dX2_valueOf_0 : decode cX2_valueOf 0 = .ok (.iload_n 1, 1) := by decide +kernel
theorem dX2_valueOf_1 : decode cX2_valueOf 1 = .ok (.ifCond .lt 17, 3) := by decide +kernel
theorem dX2_valueOf_4 : decode cX2_valueOf 4 = .ok (.iload_n 1, 1) := by decide +kernel
theorem dX2_valueOf_5 : decode cX2_valueOf 5 = .ok (.iconst 2, 1) := by decide +kernel
theorem dX2_valueOf_6 : decode cX2_valueOf 6 = .ok (.if_icmp .ge 12, 3) := by decide +kernel
theorem dX2_valueOf_9 : decode cX2_valueOf 9 = .ok (.aload_n 0, 1) := by decide +kernel
theorem dX2_valueOf_10 : decode cX2_valueOf 10 = .ok (.getfield 32, 3) := by decide +kernel
theorem dX2_valueOf_13 : decode cX2_valueOf 13 = .ok (.iload_n 1, 1) := by decide +kernel
theorem dX2_valueOf_14 : decode cX2_valueOf 14 = .ok (.iaload, 1) := by decide +kernel
theorem dX2_valueOf_15 : decode cX2_valueOf 15 = .ok (.goto 4, 3) := by decide +kernel
theorem dX2_valueOf_18 : decode cX2_valueOf 18 = .ok (.iconst 0, 1) := by decide +kernel
theorem dX2_valueOf_19 : decode cX2_valueOf 19 = .ok (.ireturn, 1) := by decide +kernel
theorem dX2_shuffleTo_0 : decode cX2_shuffleTo 0 = .ok (.iload_n 1, 1) := by decide +kernel
theorem dX2_shuffleTo_1 : decode cX2_shuffleTo 1 = .ok (.ifCond .ge 6, 3) := by decide +kernel
theorem dX2_shuffleTo_4 : decode cX2_shuffleTo 4 = .ok (.bipush (-2), 2) := by decide +kernel
theorem dX2_shuffleTo_6 : decode cX2_shuffleTo 6 = .ok (.ireturn, 1) := by decide +kernel
theorem dX2_shuffleTo_7 : decode cX2_shuffleTo 7 = .ok (.aload_n 0, 1) := by decide +kernel
theorem dX2_shuffleTo_8 : decode cX2_shuffleTo 8 = .ok (.getfield 36, 3) := by decide +kernel
theorem dX2_shuffleTo_11 : decode cX2_shuffleTo 11 = .ok (.istore_n 2, 1) := by decide +kernel
theorem dX2_shuffleTo_12 : decode cX2_shuffleTo 12 = .ok (.iload_n 2, 1) := by decide +kernel
theorem dX2_shuffleTo_13 : decode cX2_shuffleTo 13 = .ok (.iload_n 1, 1) := by decide +kernel
theorem dX2_shuffleTo_14 : decode cX2_shuffleTo 14 = .ok (.if_icmp .ne 6, 3) := by decide +kernel
theorem dX2_shuffleTo_17 : decode cX2_shuffleTo 17 = .ok (.bipush (-5), 2) := by decide +kernel
theorem dX2_shuffleTo_19 : decode cX2_shuffleTo 19 = .ok (.ireturn, 1) := by decide +kernel
theorem dX2_shuffleTo_20 : decode cX2_shuffleTo 20 = .ok (.aload_n 0, 1) := by decide +kernel
theorem dX2_shuffleTo_21 : decode cX2_shuffleTo 21 = .ok (.iload_n 1, 1) := by decide +kernel
theorem dX2_shuffleTo_22 : decode cX2_shuffleTo 22 = .ok (.putfield 36, 3) := by decide +kernel
theorem dX2_shuffleTo_25 : decode cX2_shuffleTo 25 = .ok (.iload_n 2, 1) := by decide +kernel
theorem dX2_shuffleTo_26 : decode cX2_shuffleTo 26 = .ok (.ireturn, 1) := by decide +kernel
theorem dX2_forgetTold_0 : decode cX2_forgetTold 0 = .ok (.aload_n 0, 1) := by decide +kernel
theorem dX2_forgetTold_1 : decode cX2_forgetTold 1 = .ok (.getfield 21, 3) := by decide +kernel
theorem dX2_forgetTold_4 : decode cX2_forgetTold 4 = .ok (.invokevirtual 97, 3) := by decide +kernel
theorem dX2_forgetTold_7 : decode cX2_forgetTold 7 = .ok (.istore_n 1, 1) := by decide +kernel
theorem dX2_forgetTold_8 : decode cX2_forgetTold 8 = .ok (.iload_n 1, 1) := by decide +kernel
theorem dX2_forgetTold_9 : decode cX2_forgetTold 9 = .ok (.ifCond .ne 6, 3) := by decide +kernel
theorem dX2_forgetTold_12 : decode cX2_forgetTold 12 = .ok (.bipush (-5), 2) := by decide +kernel
theorem dX2_forgetTold_14 : decode cX2_forgetTold 14 = .ok (.ireturn, 1) := by decide +kernel
theorem dX2_forgetTold_15 : decode cX2_forgetTold 15 = .ok (.aload_n 0, 1) := by decide +kernel
theorem dX2_forgetTold_16 : decode cX2_forgetTold 16 = .ok (.getfield 21, 3) := by decide +kernel
theorem dX2_forgetTold_19 : decode cX2_forgetTold 19 = .ok (.invokevirtual 100, 3) := by decide +kernel
theorem dX2_forgetTold_22 : decode cX2_forgetTold 22 = .ok (.iload_n 1, 1) := by decide +kernel
theorem dX2_forgetTold_23 : decode cX2_forgetTold 23 = .ok (.ireturn, 1) := by decide +kernel
theorem dX2_askFor_0 : decode cX2_askFor 0 = .ok (.aload_n 0, 1) := by decide +kernel
theorem dX2_askFor_1 : decode cX2_askFor 1 = .ok (.getfield 12, 3) := by decide +kernel
theorem dX2_askFor_4 : decode cX2_askFor 4 = .ok (.iload_n 1, 1) := by decide +kernel
theorem dX2_askFor_5 : decode cX2_askFor 5 = .ok (.iload_n 2, 1) := by decide +kernel
theorem dX2_askFor_6 : decode cX2_askFor 6 = .ok (.invokevirtual 103, 3) := by decide +kernel
theorem dX2_askFor_9 : decode cX2_askFor 9 = .ok (.aload_n 0, 1) := by decide +kernel
theorem dX2_askFor_10 : decode cX2_askFor 10 = .ok (.invokevirtual 106, 3) := by decide +kernel
theorem dX2_askFor_13 : decode cX2_askFor 13 = .ok (.istore_n 3, 1) := by decide +kernel
theorem dX2_askFor_14 : decode cX2_askFor 14 = .ok (.aload_n 0, 1) := by decide +kernel
theorem dX2_askFor_15 : decode cX2_askFor 15 = .ok (.getfield 28, 3) := by decide +kernel
theorem dX2_askFor_18 : decode cX2_askFor 18 = .ok (.dup, 1) := by decide +kernel
theorem dX2_askFor_19 : decode cX2_askFor 19 = .ok (.getfield 109, 3) := by decide +kernel
theorem dX2_askFor_22 : decode cX2_askFor 22 = .ok (.iconst 1, 1) := by decide +kernel
theorem dX2_askFor_23 : decode cX2_askFor 23 = .ok (.iadd, 1) := by decide +kernel
theorem dX2_askFor_24 : decode cX2_askFor 24 = .ok (.putfield 109, 3) := by decide +kernel
theorem dX2_askFor_27 : decode cX2_askFor 27 = .ok (.aload_n 0, 1) := by decide +kernel
theorem dX2_askFor_28 : decode cX2_askFor 28 = .ok (.getfield 28, 3) := by decide +kernel
theorem dX2_askFor_31 : decode cX2_askFor 31 = .ok (.dup, 1) := by decide +kernel
theorem dX2_askFor_32 : decode cX2_askFor 32 = .ok (.getfield 112, 3) := by decide +kernel
theorem dX2_askFor_35 : decode cX2_askFor 35 = .ok (.iconst 4, 1) := by decide +kernel
theorem dX2_askFor_36 : decode cX2_askFor 36 = .ok (.iload_n 1, 1) := by decide +kernel
theorem dX2_askFor_37 : decode cX2_askFor 37 = .ok (.iadd, 1) := by decide +kernel
theorem dX2_askFor_38 : decode cX2_askFor 38 = .ok (.iload_n 3, 1) := by decide +kernel
theorem dX2_askFor_39 : decode cX2_askFor 39 = .ok (.sipush 300, 3) := by decide +kernel
theorem dX2_askFor_42 : decode cX2_askFor 42 = .ok (.if_icmp .ne 7, 3) := by decide +kernel
theorem dX2_askFor_45 : decode cX2_askFor 45 = .ok (.iconst 2, 1) := by decide +kernel
theorem dX2_askFor_46 : decode cX2_askFor 46 = .ok (.goto 11, 3) := by decide +kernel
theorem dX2_askFor_49 : decode cX2_askFor 49 = .ok (.iconst 1, 1) := by decide +kernel
theorem dX2_askFor_50 : decode cX2_askFor 50 = .ok (.bipush 8, 2) := by decide +kernel
theorem dX2_askFor_52 : decode cX2_askFor 52 = .ok (.iload_n 1, 1) := by decide +kernel
theorem dX2_askFor_53 : decode cX2_askFor 53 = .ok (.isub, 1) := by decide +kernel
theorem dX2_askFor_54 : decode cX2_askFor 54 = .ok (.invokestatic 115, 3) := by decide +kernel
theorem dX2_askFor_57 : decode cX2_askFor 57 = .ok (.iadd, 1) := by decide +kernel
theorem dX2_askFor_58 : decode cX2_askFor 58 = .ok (.iadd, 1) := by decide +kernel
theorem dX2_askFor_59 : decode cX2_askFor 59 = .ok (.putfield 112, 3) := by decide +kernel
theorem dX2_askFor_62 : decode cX2_askFor 62 = .ok (.aload_n 0, 1) := by decide +kernel
theorem dX2_askFor_63 : decode cX2_askFor 63 = .ok (.getfield 28, 3) := by decide +kernel
theorem dX2_askFor_66 : decode cX2_askFor 66 = .ok (.dup, 1) := by decide +kernel
theorem dX2_askFor_67 : decode cX2_askFor 67 = .ok (.getfield 121, 3) := by decide +kernel
theorem dX2_askFor_70 : decode cX2_askFor 70 = .ok (.aload_n 0, 1) := by decide +kernel
theorem dX2_askFor_71 : decode cX2_askFor 71 = .ok (.getfield 12, 3) := by decide +kernel
theorem dX2_askFor_74 : decode cX2_askFor 74 = .ok (.invokevirtual 124, 3) := by decide +kernel
theorem dX2_askFor_77 : decode cX2_askFor 77 = .ok (.iadd, 1) := by decide +kernel
theorem dX2_askFor_78 : decode cX2_askFor 78 = .ok (.putfield 121, 3) := by decide +kernel
theorem dX2_askFor_81 : decode cX2_askFor 81 = .ok (.iload_n 3, 1) := by decide +kernel
theorem dX2_askFor_82 : decode cX2_askFor 82 = .ok (.ireturn, 1) := by decide +kernel
theorem dX2_hear_0 : decode cX2_hear 0 = .ok (.aload_n 0, 1) := by decide +kernel
theorem dX2_hear_1 : decode cX2_hear 1 = .ok (.getfield 12, 3) := by decide +kernel
theorem dX2_hear_4 : decode cX2_hear 4 = .ok (.invokevirtual 127, 3) := by decide +kernel
theorem dX2_hear_7 : decode cX2_hear 7 = .ok (.istore_n 1, 1) := by decide +kernel
theorem dX2_hear_8 : decode cX2_hear 8 = .ok (.iload_n 1, 1) := by decide +kernel
theorem dX2_hear_9 : decode cX2_hear 9 = .ok (.iconst (-1), 1) := by decide +kernel
theorem dX2_hear_10 : decode cX2_hear 10 = .ok (.if_icmp .ne 20, 3) := by decide +kernel
theorem dX2_hear_13 : decode cX2_hear 13 = .ok (.aload_n 0, 1) := by decide +kernel
theorem dX2_hear_14 : decode cX2_hear 14 = .ok (.getfield 28, 3) := by decide +kernel
theorem dX2_hear_17 : decode cX2_hear 17 = .ok (.dup, 1) := by decide +kernel
theorem dX2_hear_18 : decode cX2_hear 18 = .ok (.getfield 130, 3) := by decide +kernel
theorem dX2_hear_21 : decode cX2_hear 21 = .ok (.iconst 1, 1) := by decide +kernel
theorem dX2_hear_22 : decode cX2_hear 22 = .ok (.iadd, 1) := by decide +kernel
theorem dX2_hear_23 : decode cX2_hear 23 = .ok (.putfield 130, 3) := by decide +kernel
theorem dX2_hear_26 : decode cX2_hear 26 = .ok (.sipush 300, 3) := by decide +kernel
theorem dX2_hear_29 : decode cX2_hear 29 = .ok (.ireturn, 1) := by decide +kernel
theorem dX2_hear_30 : decode cX2_hear 30 = .ok (.aload_n 0, 1) := by decide +kernel
theorem dX2_hear_31 : decode cX2_hear 31 = .ok (.getfield 12, 3) := by decide +kernel
theorem dX2_hear_34 : decode cX2_hear 34 = .ok (.iload_n 1, 1) := by decide +kernel
theorem dX2_hear_35 : decode cX2_hear 35 = .ok (.invokevirtual 133, 3) := by decide +kernel
theorem dX2_hear_38 : decode cX2_hear 38 = .ok (.istore_n 2, 1) := by decide +kernel
theorem dX2_hear_39 : decode cX2_hear 39 = .ok (.aload_n 0, 1) := by decide +kernel
theorem dX2_hear_40 : decode cX2_hear 40 = .ok (.getfield 12, 3) := by decide +kernel
theorem dX2_hear_43 : decode cX2_hear 43 = .ok (.iload_n 2, 1) := by decide +kernel
theorem dX2_hear_44 : decode cX2_hear 44 = .ok (.invokevirtual 136, 3) := by decide +kernel
theorem dX2_hear_47 : decode cX2_hear 47 = .ok (.istore_n 3, 1) := by decide +kernel
theorem dX2_hear_48 : decode cX2_hear 48 = .ok (.iload_n 3, 1) := by decide +kernel
theorem dX2_hear_49 : decode cX2_hear 49 = .ok (.ifCond .eq 30, 3) := by decide +kernel
theorem dX2_hear_52 : decode cX2_hear 52 = .ok (.aload_n 0, 1) := by decide +kernel
theorem dX2_hear_53 : decode cX2_hear 53 = .ok (.iload_n 2, 1) := by decide +kernel
theorem dX2_hear_54 : decode cX2_hear 54 = .ok (.putfield 43, 3) := by decide +kernel
theorem dX2_hear_57 : decode cX2_hear 57 = .ok (.aload_n 0, 1) := by decide +kernel
theorem dX2_hear_58 : decode cX2_hear 58 = .ok (.getfield 28, 3) := by decide +kernel
theorem dX2_hear_61 : decode cX2_hear 61 = .ok (.dup, 1) := by decide +kernel
theorem dX2_hear_62 : decode cX2_hear 62 = .ok (.getfield 139, 3) := by decide +kernel
theorem dX2_hear_65 : decode cX2_hear 65 = .ok (.iconst 1, 1) := by decide +kernel
theorem dX2_hear_66 : decode cX2_hear 66 = .ok (.iadd, 1) := by decide +kernel
theorem dX2_hear_67 : decode cX2_hear 67 = .ok (.putfield 139, 3) := by decide +kernel
theorem dX2_hear_70 : decode cX2_hear 70 = .ok (.sipush 400, 3) := by decide +kernel
theorem dX2_hear_73 : decode cX2_hear 73 = .ok (.iload_n 3, 1) := by decide +kernel
theorem dX2_hear_74 : decode cX2_hear 74 = .ok (.invokestatic 142, 3) := by decide +kernel
theorem dX2_hear_77 : decode cX2_hear 77 = .ok (.iadd, 1) := by decide +kernel
theorem dX2_hear_78 : decode cX2_hear 78 = .ok (.ireturn, 1) := by decide +kernel
theorem dX2_hear_79 : decode cX2_hear 79 = .ok (.aload_n 0, 1) := by decide +kernel
theorem dX2_hear_80 : decode cX2_hear 80 = .ok (.getfield 28, 3) := by decide +kernel
theorem dX2_hear_83 : decode cX2_hear 83 = .ok (.dup, 1) := by decide +kernel
theorem dX2_hear_84 : decode cX2_hear 84 = .ok (.getfield 145, 3) := by decide +kernel
theorem dX2_hear_87 : decode cX2_hear 87 = .ok (.iconst 1, 1) := by decide +kernel
theorem dX2_hear_88 : decode cX2_hear 88 = .ok (.iadd, 1) := by decide +kernel
theorem dX2_hear_89 : decode cX2_hear 89 = .ok (.putfield 145, 3) := by decide +kernel
theorem dX2_hear_92 : decode cX2_hear 92 = .ok (.aload_n 0, 1) := by decide +kernel
theorem dX2_hear_93 : decode cX2_hear 93 = .ok (.getfield 21, 3) := by decide +kernel
theorem dX2_hear_96 : decode cX2_hear 96 = .ok (.iload_n 2, 1) := by decide +kernel
theorem dX2_hear_97 : decode cX2_hear 97 = .ok (.invokevirtual 147, 3) := by decide +kernel
theorem dX2_hear_100 : decode cX2_hear 100 = .ok (.aload_n 0, 1) := by decide +kernel
theorem dX2_hear_101 : decode cX2_hear 101 = .ok (.getfield 12, 3) := by decide +kernel
theorem dX2_hear_104 : decode cX2_hear 104 = .ok (.iload_n 1, 1) := by decide +kernel
theorem dX2_hear_105 : decode cX2_hear 105 = .ok (.invokevirtual 150, 3) := by decide +kernel
theorem dX2_hear_108 : decode cX2_hear 108 = .ok (.aload_n 0, 1) := by decide +kernel
theorem dX2_hear_109 : decode cX2_hear 109 = .ok (.getfield 32, 3) := by decide +kernel
theorem dX2_hear_112 : decode cX2_hear 112 = .ok (.iconst 0, 1) := by decide +kernel
theorem dX2_hear_113 : decode cX2_hear 113 = .ok (.iaload, 1) := by decide +kernel
theorem dX2_hear_114 : decode cX2_hear 114 = .ok (.ifCond .eq 11, 3) := by decide +kernel
theorem dX2_hear_117 : decode cX2_hear 117 = .ok (.aload_n 0, 1) := by decide +kernel
theorem dX2_hear_118 : decode cX2_hear 118 = .ok (.getfield 12, 3) := by decide +kernel
theorem dX2_hear_121 : decode cX2_hear 121 = .ok (.iload_n 1, 1) := by decide +kernel
theorem dX2_hear_122 : decode cX2_hear 122 = .ok (.invokevirtual 81, 3) := by decide +kernel
theorem dX2_hear_125 : decode cX2_hear 125 = .ok (.iload_n 2, 1) := by decide +kernel
theorem dX2_hear_126 : decode cX2_hear 126 = .ok (.ireturn, 1) := by decide +kernel
theorem dX2_makeWalk_0 : decode cX2_makeWalk 0 = .ok (.aload_n 0, 1) := by decide +kernel
theorem dX2_makeWalk_1 : decode cX2_makeWalk 1 = .ok (.getfield 28, 3) := by decide +kernel
theorem dX2_makeWalk_4 : decode cX2_makeWalk 4 = .ok (.getfield 145, 3) := by decide +kernel
theorem dX2_makeWalk_7 : decode cX2_makeWalk 7 = .ok (.istore_n 2, 1) := by decide +kernel
theorem dX2_makeWalk_8 : decode cX2_makeWalk 8 = .ok (.aload_n 0, 1) := by decide +kernel
theorem dX2_makeWalk_9 : decode cX2_makeWalk 9 = .ok (.iconst 0, 1) := by decide +kernel
theorem dX2_makeWalk_10 : decode cX2_makeWalk 10 = .ok (.putfield 40, 3) := by decide +kernel
theorem dX2_makeWalk_13 : decode cX2_makeWalk 13 = .ok (.aload_n 0, 1) := by decide +kernel
theorem dX2_makeWalk_14 : decode cX2_makeWalk 14 = .ok (.iconst 0, 1) := by decide +kernel
theorem dX2_makeWalk_15 : decode cX2_makeWalk 15 = .ok (.iconst 0, 1) := by decide +kernel
theorem dX2_makeWalk_16 : decode cX2_makeWalk 16 = .ok (.iload_n 1, 1) := by decide +kernel
theorem dX2_makeWalk_17 : decode cX2_makeWalk 17 = .ok (.invokestatic 153, 3) := by decide +kernel
theorem dX2_makeWalk_20 : decode cX2_makeWalk 20 = .ok (.aload_n 0, 1) := by decide +kernel
theorem dX2_makeWalk_21 : decode cX2_makeWalk 21 = .ok (.getfield 28, 3) := by decide +kernel
theorem dX2_makeWalk_24 : decode cX2_makeWalk 24 = .ok (.getfield 145, 3) := by decide +kernel
theorem dX2_makeWalk_27 : decode cX2_makeWalk 27 = .ok (.iload_n 2, 1) := by decide +kernel
theorem dX2_makeWalk_28 : decode cX2_makeWalk 28 = .ok (.isub, 1) := by decide +kernel
theorem dX2_makeWalk_29 : decode cX2_makeWalk 29 = .ok (.ireturn, 1) := by decide +kernel
theorem dX2_walkFrom_0 : decode cX2_walkFrom 0 = .ok (.aload_n 0, 1) := by decide +kernel
theorem dX2_walkFrom_1 : decode cX2_walkFrom 1 = .ok (.ifnull 11, 3) := by decide +kernel
theorem dX2_walkFrom_4 : decode cX2_walkFrom 4 = .ok (.iload_n 1, 1) := by decide +kernel
theorem dX2_walkFrom_5 : decode cX2_walkFrom 5 = .ok (.iload_n 2, 1) := by decide +kernel
theorem dX2_walkFrom_6 : decode cX2_walkFrom 6 = .ok (.invokestatic 157, 3) := by decide +kernel
theorem dX2_walkFrom_9 : decode cX2_walkFrom 9 = .ok (.ifCond .ne 4, 3) := by decide +kernel
theorem dX2_walkFrom_12 : decode cX2_walkFrom 12 = .ok (.return_, 1) := by decide +kernel
theorem dX2_walkFrom_13 : decode cX2_walkFrom 13 = .ok (.aload_n 0, 1) := by decide +kernel
theorem dX2_walkFrom_14 : decode cX2_walkFrom 14 = .ok (.aload_n 0, 1) := by decide +kernel
theorem dX2_walkFrom_15 : decode cX2_walkFrom 15 = .ok (.getfield 40, 3) := by decide +kernel
theorem dX2_walkFrom_18 : decode cX2_walkFrom 18 = .ok (.iload_n 1, 1) := by decide +kernel
theorem dX2_walkFrom_19 : decode cX2_walkFrom 19 = .ok (.invokestatic 115, 3) := by decide +kernel
theorem dX2_walkFrom_22 : decode cX2_walkFrom 22 = .ok (.putfield 40, 3) := by decide +kernel
theorem dX2_walkFrom_25 : decode cX2_walkFrom 25 = .ok (.aload_n 0, 1) := by decide +kernel
theorem dX2_walkFrom_26 : decode cX2_walkFrom 26 = .ok (.iload_n 1, 1) := by decide +kernel
theorem dX2_walkFrom_27 : decode cX2_walkFrom 27 = .ok (.iload_n 2, 1) := by decide +kernel
theorem dX2_walkFrom_28 : decode cX2_walkFrom 28 = .ok (.invokevirtual 161, 3) := by decide +kernel
theorem dX2_walkFrom_31 : decode cX2_walkFrom 31 = .ok (.istore 4, 2) := by decide +kernel
theorem dX2_walkFrom_33 : decode cX2_walkFrom 33 = .ok (.iload 4, 2) := by decide +kernel
theorem dX2_walkFrom_35 : decode cX2_walkFrom 35 = .ok (.sipush 400, 3) := by decide +kernel
theorem dX2_walkFrom_38 : decode cX2_walkFrom 38 = .ok (.if_icmp .ge 4, 3) := by decide +kernel
theorem dX2_walkFrom_41 : decode cX2_walkFrom 41 = .ok (.return_, 1) := by decide +kernel
theorem dX2_walkFrom_42 : decode cX2_walkFrom 42 = .ok (.iload_n 3, 1) := by decide +kernel
theorem dX2_walkFrom_43 : decode cX2_walkFrom 43 = .ok (.ifCond .eq 16, 3) := by decide +kernel
theorem dX2_walkFrom_46 : decode cX2_walkFrom 46 = .ok (.iload_n 1, 1) := by decide +kernel
theorem dX2_walkFrom_47 : decode cX2_walkFrom 47 = .ok (.iload 4, 2) := by decide +kernel
theorem dX2_walkFrom_49 : decode cX2_walkFrom 49 = .ok (.sipush 400, 3) := by decide +kernel
theorem dX2_walkFrom_52 : decode cX2_walkFrom 52 = .ok (.isub, 1) := by decide +kernel
theorem dX2_walkFrom_53 : decode cX2_walkFrom 53 = .ok (.invokestatic 115, 3) := by decide +kernel
theorem dX2_walkFrom_56 : decode cX2_walkFrom 56 = .ok (.goto 4, 3) := by decide +kernel
theorem dX2_walkFrom_59 : decode cX2_walkFrom 59 = .ok (.iload_n 1, 1) := by decide +kernel
theorem dX2_walkFrom_60 : decode cX2_walkFrom 60 = .ok (.istore 5, 2) := by decide +kernel
theorem dX2_walkFrom_62 : decode cX2_walkFrom 62 = .ok (.aload_n 0, 1) := by decide +kernel
theorem dX2_walkFrom_63 : decode cX2_walkFrom 63 = .ok (.getfield 43, 3) := by decide +kernel
theorem dX2_walkFrom_66 : decode cX2_walkFrom 66 = .ok (.iload 5, 2) := by decide +kernel
theorem dX2_walkFrom_68 : decode cX2_walkFrom 68 = .ok (.invokestatic 164, 3) := by decide +kernel
theorem dX2_walkFrom_71 : decode cX2_walkFrom 71 = .ok (.istore 6, 2) := by decide +kernel
theorem dX2_walkFrom_73 : decode cX2_walkFrom 73 = .ok (.aload_n 0, 1) := by decide +kernel
theorem dX2_walkFrom_74 : decode cX2_walkFrom 74 = .ok (.iload 5, 2) := by decide +kernel
theorem dX2_walkFrom_76 : decode cX2_walkFrom 76 = .ok (.iconst 1, 1) := by decide +kernel
theorem dX2_walkFrom_77 : decode cX2_walkFrom 77 = .ok (.iadd, 1) := by decide +kernel
theorem dX2_walkFrom_78 : decode cX2_walkFrom 78 = .ok (.iconst 2, 1) := by decide +kernel
theorem dX2_walkFrom_79 : decode cX2_walkFrom 79 = .ok (.iload 6, 2) := by decide +kernel
theorem dX2_walkFrom_81 : decode cX2_walkFrom 81 = .ok (.imul, 1) := by decide +kernel
theorem dX2_walkFrom_82 : decode cX2_walkFrom 82 = .ok (.iload_n 3, 1) := by decide +kernel
theorem dX2_walkFrom_83 : decode cX2_walkFrom 83 = .ok (.invokestatic 153, 3) := by decide +kernel
theorem dX2_walkFrom_86 : decode cX2_walkFrom 86 = .ok (.aload_n 0, 1) := by decide +kernel
theorem dX2_walkFrom_87 : decode cX2_walkFrom 87 = .ok (.iload 5, 2) := by decide +kernel
theorem dX2_walkFrom_89 : decode cX2_walkFrom 89 = .ok (.iconst 1, 1) := by decide +kernel
theorem dX2_walkFrom_90 : decode cX2_walkFrom 90 = .ok (.iadd, 1) := by decide +kernel
theorem dX2_walkFrom_91 : decode cX2_walkFrom 91 = .ok (.iconst 2, 1) := by decide +kernel
theorem dX2_walkFrom_92 : decode cX2_walkFrom 92 = .ok (.iload 6, 2) := by decide +kernel
theorem dX2_walkFrom_94 : decode cX2_walkFrom 94 = .ok (.imul, 1) := by decide +kernel
theorem dX2_walkFrom_95 : decode cX2_walkFrom 95 = .ok (.iconst 1, 1) := by decide +kernel
theorem dX2_walkFrom_96 : decode cX2_walkFrom 96 = .ok (.iadd, 1) := by decide +kernel
theorem dX2_walkFrom_97 : decode cX2_walkFrom 97 = .ok (.iload_n 3, 1) := by decide +kernel
theorem dX2_walkFrom_98 : decode cX2_walkFrom 98 = .ok (.invokestatic 153, 3) := by decide +kernel
theorem dX2_walkFrom_101 : decode cX2_walkFrom 101 = .ok (.return_, 1) := by decide +kernel
theorem dX2_makeFrame_0 : decode cX2_makeFrame 0 = .ok (.iload_n 1, 1) := by decide +kernel
theorem dX2_makeFrame_1 : decode cX2_makeFrame 1 = .ok (.invokestatic 167, 3) := by decide +kernel
theorem dX2_makeFrame_4 : decode cX2_makeFrame 4 = .ok (.ifCond .ne 6, 3) := by decide +kernel
theorem dX2_makeFrame_7 : decode cX2_makeFrame 7 = .ok (.bipush (-2), 2) := by decide +kernel
theorem dX2_makeFrame_9 : decode cX2_makeFrame 9 = .ok (.ireturn, 1) := by decide +kernel
theorem dX2_makeFrame_10 : decode cX2_makeFrame 10 = .ok (.aload_n 0, 1) := by decide +kernel
theorem dX2_makeFrame_11 : decode cX2_makeFrame 11 = .ok (.getfield 28, 3) := by decide +kernel
theorem dX2_makeFrame_14 : decode cX2_makeFrame 14 = .ok (.getfield 145, 3) := by decide +kernel
theorem dX2_makeFrame_17 : decode cX2_makeFrame 17 = .ok (.istore_n 2, 1) := by decide +kernel
theorem dX2_makeFrame_18 : decode cX2_makeFrame 18 = .ok (.aload_n 0, 1) := by decide +kernel
theorem dX2_makeFrame_19 : decode cX2_makeFrame 19 = .ok (.getfield 28, 3) := by decide +kernel
theorem dX2_makeFrame_22 : decode cX2_makeFrame 22 = .ok (.dup, 1) := by decide +kernel
theorem dX2_makeFrame_23 : decode cX2_makeFrame 23 = .ok (.getfield 170, 3) := by decide +kernel
theorem dX2_makeFrame_26 : decode cX2_makeFrame 26 = .ok (.iconst 1, 1) := by decide +kernel
theorem dX2_makeFrame_27 : decode cX2_makeFrame 27 = .ok (.iadd, 1) := by decide +kernel
theorem dX2_makeFrame_28 : decode cX2_makeFrame 28 = .ok (.putfield 170, 3) := by decide +kernel
theorem dX2_makeFrame_31 : decode cX2_makeFrame 31 = .ok (.aload_n 0, 1) := by decide +kernel
theorem dX2_makeFrame_32 : decode cX2_makeFrame 32 = .ok (.getfield 28, 3) := by decide +kernel
theorem dX2_makeFrame_35 : decode cX2_makeFrame 35 = .ok (.dup, 1) := by decide +kernel
theorem dX2_makeFrame_36 : decode cX2_makeFrame 36 = .ok (.getfield 112, 3) := by decide +kernel
theorem dX2_makeFrame_39 : decode cX2_makeFrame 39 = .ok (.iconst 4, 1) := by decide +kernel
theorem dX2_makeFrame_40 : decode cX2_makeFrame 40 = .ok (.iadd, 1) := by decide +kernel
theorem dX2_makeFrame_41 : decode cX2_makeFrame 41 = .ok (.putfield 112, 3) := by decide +kernel
theorem dX2_makeFrame_44 : decode cX2_makeFrame 44 = .ok (.aload_n 0, 1) := by decide +kernel
theorem dX2_makeFrame_45 : decode cX2_makeFrame 45 = .ok (.iload_n 1, 1) := by decide +kernel
theorem dX2_makeFrame_46 : decode cX2_makeFrame 46 = .ok (.invokevirtual 173, 3) := by decide +kernel
theorem dX2_makeFrame_49 : decode cX2_makeFrame 49 = .ok (.iconst 0, 1) := by decide +kernel
theorem dX2_makeFrame_50 : decode cX2_makeFrame 50 = .ok (.istore_n 3, 1) := by decide +kernel
theorem dX2_makeFrame_51 : decode cX2_makeFrame 51 = .ok (.iload_n 3, 1) := by decide +kernel
theorem dX2_makeFrame_52 : decode cX2_makeFrame 52 = .ok (.iload_n 1, 1) := by decide +kernel
theorem dX2_makeFrame_53 : decode cX2_makeFrame 53 = .ok (.if_icmp .ge 81, 3) := by decide +kernel
theorem dX2_makeFrame_56 : decode cX2_makeFrame 56 = .ok (.aload_n 0, 1) := by decide +kernel
theorem dX2_makeFrame_57 : decode cX2_makeFrame 57 = .ok (.getfield 12, 3) := by decide +kernel
theorem dX2_makeFrame_60 : decode cX2_makeFrame 60 = .ok (.iload_n 3, 1) := by decide +kernel
theorem dX2_makeFrame_61 : decode cX2_makeFrame 61 = .ok (.invokevirtual 176, 3) := by decide +kernel
theorem dX2_makeFrame_64 : decode cX2_makeFrame 64 = .ok (.aload_n 0, 1) := by decide +kernel
theorem dX2_makeFrame_65 : decode cX2_makeFrame 65 = .ok (.invokevirtual 106, 3) := by decide +kernel
theorem dX2_makeFrame_68 : decode cX2_makeFrame 68 = .ok (.istore 4, 2) := by decide +kernel
theorem dX2_makeFrame_70 : decode cX2_makeFrame 70 = .ok (.aload_n 0, 1) := by decide +kernel
theorem dX2_makeFrame_71 : decode cX2_makeFrame 71 = .ok (.getfield 28, 3) := by decide +kernel
theorem dX2_makeFrame_74 : decode cX2_makeFrame 74 = .ok (.dup, 1) := by decide +kernel
theorem dX2_makeFrame_75 : decode cX2_makeFrame 75 = .ok (.getfield 179, 3) := by decide +kernel
theorem dX2_makeFrame_78 : decode cX2_makeFrame 78 = .ok (.iconst 1, 1) := by decide +kernel
theorem dX2_makeFrame_79 : decode cX2_makeFrame 79 = .ok (.iadd, 1) := by decide +kernel
theorem dX2_makeFrame_80 : decode cX2_makeFrame 80 = .ok (.putfield 179, 3) := by decide +kernel
theorem dX2_makeFrame_83 : decode cX2_makeFrame 83 = .ok (.aload_n 0, 1) := by decide +kernel
theorem dX2_makeFrame_84 : decode cX2_makeFrame 84 = .ok (.getfield 28, 3) := by decide +kernel
theorem dX2_makeFrame_87 : decode cX2_makeFrame 87 = .ok (.dup, 1) := by decide +kernel
theorem dX2_makeFrame_88 : decode cX2_makeFrame 88 = .ok (.getfield 112, 3) := by decide +kernel
theorem dX2_makeFrame_91 : decode cX2_makeFrame 91 = .ok (.iload 4, 2) := by decide +kernel
theorem dX2_makeFrame_93 : decode cX2_makeFrame 93 = .ok (.sipush 300, 3) := by decide +kernel
theorem dX2_makeFrame_96 : decode cX2_makeFrame 96 = .ok (.if_icmp .ne 7, 3) := by decide +kernel
theorem dX2_makeFrame_99 : decode cX2_makeFrame 99 = .ok (.iconst 1, 1) := by decide +kernel
theorem dX2_makeFrame_100 : decode cX2_makeFrame 100 = .ok (.goto 5, 3) := by decide +kernel
theorem dX2_makeFrame_103 : decode cX2_makeFrame 103 = .ok (.bipush 9, 2) := by decide +kernel
theorem dX2_makeFrame_105 : decode cX2_makeFrame 105 = .ok (.iadd, 1) := by decide +kernel
theorem dX2_makeFrame_106 : decode cX2_makeFrame 106 = .ok (.putfield 112, 3) := by decide +kernel
theorem dX2_makeFrame_109 : decode cX2_makeFrame 109 = .ok (.aload_n 0, 1) := by decide +kernel
theorem dX2_makeFrame_110 : decode cX2_makeFrame 110 = .ok (.getfield 28, 3) := by decide +kernel
theorem dX2_makeFrame_113 : decode cX2_makeFrame 113 = .ok (.dup, 1) := by decide +kernel
theorem dX2_makeFrame_114 : decode cX2_makeFrame 114 = .ok (.getfield 121, 3) := by decide +kernel
theorem dX2_makeFrame_117 : decode cX2_makeFrame 117 = .ok (.aload_n 0, 1) := by decide +kernel
theorem dX2_makeFrame_118 : decode cX2_makeFrame 118 = .ok (.getfield 12, 3) := by decide +kernel
theorem dX2_makeFrame_121 : decode cX2_makeFrame 121 = .ok (.invokevirtual 124, 3) := by decide +kernel
theorem dX2_makeFrame_124 : decode cX2_makeFrame 124 = .ok (.iadd, 1) := by decide +kernel
theorem dX2_makeFrame_125 : decode cX2_makeFrame 125 = .ok (.putfield 121, 3) := by decide +kernel
theorem dX2_makeFrame_128 : decode cX2_makeFrame 128 = .ok (.iinc 3 1, 3) := by decide +kernel
theorem dX2_makeFrame_131 : decode cX2_makeFrame 131 = .ok (.goto (-80), 3) := by decide +kernel
theorem dX2_makeFrame_134 : decode cX2_makeFrame 134 = .ok (.aload_n 0, 1) := by decide +kernel
theorem dX2_makeFrame_135 : decode cX2_makeFrame 135 = .ok (.getfield 28, 3) := by decide +kernel
theorem dX2_makeFrame_138 : decode cX2_makeFrame 138 = .ok (.getfield 145, 3) := by decide +kernel
theorem dX2_makeFrame_141 : decode cX2_makeFrame 141 = .ok (.iload_n 2, 1) := by decide +kernel
theorem dX2_makeFrame_142 : decode cX2_makeFrame 142 = .ok (.isub, 1) := by decide +kernel
theorem dX2_makeFrame_143 : decode cX2_makeFrame 143 = .ok (.ireturn, 1) := by decide +kernel
theorem dX2_drawSlots_0 : decode cX2_drawSlots 0 = .ok (.aload_n 0, 1) := by decide +kernel
theorem dX2_drawSlots_1 : decode cX2_drawSlots 1 = .ok (.getfield 12, 3) := by decide +kernel
theorem dX2_drawSlots_4 : decode cX2_drawSlots 4 = .ok (.invokevirtual 66, 3) := by decide +kernel
theorem dX2_drawSlots_7 : decode cX2_drawSlots 7 = .ok (.istore_n 2, 1) := by decide +kernel
theorem dX2_drawSlots_8 : decode cX2_drawSlots 8 = .ok (.iconst 0, 1) := by decide +kernel
theorem dX2_drawSlots_9 : decode cX2_drawSlots 9 = .ok (.istore_n 3, 1) := by decide +kernel
theorem dX2_drawSlots_10 : decode cX2_drawSlots 10 = .ok (.iload_n 3, 1) := by decide +kernel
theorem dX2_drawSlots_11 : decode cX2_drawSlots 11 = .ok (.iload_n 2, 1) := by decide +kernel
theorem dX2_drawSlots_12 : decode cX2_drawSlots 12 = .ok (.if_icmp .ge 37, 3) := by decide +kernel
theorem dX2_drawSlots_15 : decode cX2_drawSlots 15 = .ok (.aload_n 0, 1) := by decide +kernel
theorem dX2_drawSlots_16 : decode cX2_drawSlots 16 = .ok (.getfield 12, 3) := by decide +kernel
theorem dX2_drawSlots_19 : decode cX2_drawSlots 19 = .ok (.iload_n 3, 1) := by decide +kernel
theorem dX2_drawSlots_20 : decode cX2_drawSlots 20 = .ok (.aload_n 0, 1) := by decide +kernel
theorem dX2_drawSlots_21 : decode cX2_drawSlots 21 = .ok (.getfield 12, 3) := by decide +kernel
theorem dX2_drawSlots_24 : decode cX2_drawSlots 24 = .ok (.iload_n 3, 1) := by decide +kernel
theorem dX2_drawSlots_25 : decode cX2_drawSlots 25 = .ok (.invokevirtual 77, 3) := by decide +kernel
theorem dX2_drawSlots_28 : decode cX2_drawSlots 28 = .ok (.ifCond .eq 11, 3) := by decide +kernel
theorem dX2_drawSlots_31 : decode cX2_drawSlots 31 = .ok (.aload_n 0, 1) := by decide +kernel
theorem dX2_drawSlots_32 : decode cX2_drawSlots 32 = .ok (.iload_n 1, 1) := by decide +kernel
theorem dX2_drawSlots_33 : decode cX2_drawSlots 33 = .ok (.invokevirtual 182, 3) := by decide +kernel
theorem dX2_drawSlots_36 : decode cX2_drawSlots 36 = .ok (.goto 4, 3) := by decide +kernel
theorem dX2_drawSlots_39 : decode cX2_drawSlots 39 = .ok (.iconst (-1), 1) := by decide +kernel
theorem dX2_drawSlots_40 : decode cX2_drawSlots 40 = .ok (.invokevirtual 185, 3) := by decide +kernel
theorem dX2_drawSlots_43 : decode cX2_drawSlots 43 = .ok (.iinc 3 1, 3) := by decide +kernel
theorem dX2_drawSlots_46 : decode cX2_drawSlots 46 = .ok (.goto (-36), 3) := by decide +kernel
theorem dX2_drawSlots_49 : decode cX2_drawSlots 49 = .ok (.return_, 1) := by decide +kernel
theorem dX2_draw_0 : decode cX2_draw 0 = .ok (.iload_n 1, 1) := by decide +kernel
theorem dX2_draw_1 : decode cX2_draw 1 = .ok (.iconst 1, 1) := by decide +kernel
theorem dX2_draw_2 : decode cX2_draw 2 = .ok (.if_icmp .ge 5, 3) := by decide +kernel
theorem dX2_draw_5 : decode cX2_draw 5 = .ok (.iconst 0, 1) := by decide +kernel
theorem dX2_draw_6 : decode cX2_draw 6 = .ok (.ireturn, 1) := by decide +kernel
theorem dX2_draw_7 : decode cX2_draw 7 = .ok (.aload_n 0, 1) := by decide +kernel
theorem dX2_draw_8 : decode cX2_draw 8 = .ok (.aload_n 0, 1) := by decide +kernel
theorem dX2_draw_9 : decode cX2_draw 9 = .ok (.getfield 36, 3) := by decide +kernel
theorem dX2_draw_12 : decode cX2_draw 12 = .ok (.ldc 188, 2) := by decide +kernel
theorem dX2_draw_14 : decode cX2_draw 14 = .ok (.imul, 1) := by decide +kernel
theorem dX2_draw_15 : decode cX2_draw 15 = .ok (.sipush 12345, 3) := by decide +kernel
theorem dX2_draw_18 : decode cX2_draw 18 = .ok (.iadd, 1) := by decide +kernel
theorem dX2_draw_19 : decode cX2_draw 19 = .ok (.ldc 189, 2) := by decide +kernel
theorem dX2_draw_21 : decode cX2_draw 21 = .ok (.iand, 1) := by decide +kernel
theorem dX2_draw_22 : decode cX2_draw 22 = .ok (.putfield 36, 3) := by decide +kernel
theorem dX2_draw_25 : decode cX2_draw 25 = .ok (.aload_n 0, 1) := by decide +kernel
theorem dX2_draw_26 : decode cX2_draw 26 = .ok (.getfield 36, 3) := by decide +kernel
theorem dX2_draw_29 : decode cX2_draw 29 = .ok (.ldc 190, 2) := by decide +kernel
theorem dX2_draw_31 : decode cX2_draw 31 = .ok (.idiv, 1) := by decide +kernel
theorem dX2_draw_32 : decode cX2_draw 32 = .ok (.iload_n 1, 1) := by decide +kernel
theorem dX2_draw_33 : decode cX2_draw 33 = .ok (.irem, 1) := by decide +kernel
theorem dX2_draw_34 : decode cX2_draw 34 = .ok (.ireturn, 1) := by decide +kernel
theorem dX2_makeRounds_0 : decode cX2_makeRounds 0 = .ok (.iload_n 1, 1) := by decide +kernel
theorem dX2_makeRounds_1 : decode cX2_makeRounds 1 = .ok (.invokestatic 167, 3) := by decide +kernel
theorem dX2_makeRounds_4 : decode cX2_makeRounds 4 = .ok (.ifCond .ne 6, 3) := by decide +kernel
theorem dX2_makeRounds_7 : decode cX2_makeRounds 7 = .ok (.bipush (-2), 2) := by decide +kernel
theorem dX2_makeRounds_9 : decode cX2_makeRounds 9 = .ok (.ireturn, 1) := by decide +kernel
theorem dX2_makeRounds_10 : decode cX2_makeRounds 10 = .ok (.iload_n 1, 1) := by decide +kernel
theorem dX2_makeRounds_11 : decode cX2_makeRounds 11 = .ok (.istore_n 2, 1) := by decide +kernel
theorem dX2_makeRounds_12 : decode cX2_makeRounds 12 = .ok (.iconst 0, 1) := by decide +kernel
theorem dX2_makeRounds_13 : decode cX2_makeRounds 13 = .ok (.istore_n 3, 1) := by decide +kernel
theorem dX2_makeRounds_14 : decode cX2_makeRounds 14 = .ok (.iconst 1, 1) := by decide +kernel
theorem dX2_makeRounds_15 : decode cX2_makeRounds 15 = .ok (.istore 4, 2) := by decide +kernel
theorem dX2_makeRounds_17 : decode cX2_makeRounds 17 = .ok (.iload 4, 2) := by decide +kernel
theorem dX2_makeRounds_19 : decode cX2_makeRounds 19 = .ok (.ifCond .eq 63, 3) := by decide +kernel
theorem dX2_makeRounds_22 : decode cX2_makeRounds 22 = .ok (.iload_n 3, 1) := by decide +kernel
theorem dX2_makeRounds_23 : decode cX2_makeRounds 23 = .ok (.bipush 40, 2) := by decide +kernel
theorem dX2_makeRounds_25 : decode cX2_makeRounds 25 = .ok (.if_icmp .ge 57, 3) := by decide +kernel
theorem dX2_makeRounds_28 : decode cX2_makeRounds 28 = .ok (.aload_n 0, 1) := by decide +kernel
theorem dX2_makeRounds_29 : decode cX2_makeRounds 29 = .ok (.getfield 28, 3) := by decide +kernel
theorem dX2_makeRounds_32 : decode cX2_makeRounds 32 = .ok (.getfield 139, 3) := by decide +kernel
theorem dX2_makeRounds_35 : decode cX2_makeRounds 35 = .ok (.istore 5, 2) := by decide +kernel
theorem dX2_makeRounds_37 : decode cX2_makeRounds 37 = .ok (.aload_n 0, 1) := by decide +kernel
theorem dX2_makeRounds_38 : decode cX2_makeRounds 38 = .ok (.iload_n 2, 1) := by decide +kernel
theorem dX2_makeRounds_39 : decode cX2_makeRounds 39 = .ok (.invokevirtual 191, 3) := by decide +kernel
theorem dX2_makeRounds_42 : decode cX2_makeRounds 42 = .ok (.pop, 1) := by decide +kernel
theorem dX2_makeRounds_43 : decode cX2_makeRounds 43 = .ok (.aload_n 0, 1) := by decide +kernel
theorem dX2_makeRounds_44 : decode cX2_makeRounds 44 = .ok (.getfield 28, 3) := by decide +kernel
theorem dX2_makeRounds_47 : decode cX2_makeRounds 47 = .ok (.getfield 139, 3) := by decide +kernel
theorem dX2_makeRounds_50 : decode cX2_makeRounds 50 = .ok (.iload 5, 2) := by decide +kernel
theorem dX2_makeRounds_52 : decode cX2_makeRounds 52 = .ok (.isub, 1) := by decide +kernel
theorem dX2_makeRounds_53 : decode cX2_makeRounds 53 = .ok (.istore 5, 2) := by decide +kernel
theorem dX2_makeRounds_55 : decode cX2_makeRounds 55 = .ok (.aload_n 0, 1) := by decide +kernel
theorem dX2_makeRounds_56 : decode cX2_makeRounds 56 = .ok (.iload_n 1, 1) := by decide +kernel
theorem dX2_makeRounds_57 : decode cX2_makeRounds 57 = .ok (.iload_n 2, 1) := by decide +kernel
theorem dX2_makeRounds_58 : decode cX2_makeRounds 58 = .ok (.iload 5, 2) := by decide +kernel
theorem dX2_makeRounds_60 : decode cX2_makeRounds 60 = .ok (.invokevirtual 194, 3) := by decide +kernel
theorem dX2_makeRounds_63 : decode cX2_makeRounds 63 = .ok (.istore_n 2, 1) := by decide +kernel
theorem dX2_makeRounds_64 : decode cX2_makeRounds 64 = .ok (.iinc 3 1, 3) := by decide +kernel
theorem dX2_makeRounds_67 : decode cX2_makeRounds 67 = .ok (.iload 5, 2) := by decide +kernel
theorem dX2_makeRounds_69 : decode cX2_makeRounds 69 = .ok (.ifCond .le 7, 3) := by decide +kernel
theorem dX2_makeRounds_72 : decode cX2_makeRounds 72 = .ok (.iconst 1, 1) := by decide +kernel
theorem dX2_makeRounds_73 : decode cX2_makeRounds 73 = .ok (.goto 4, 3) := by decide +kernel
theorem dX2_makeRounds_76 : decode cX2_makeRounds 76 = .ok (.iconst 0, 1) := by decide +kernel
theorem dX2_makeRounds_77 : decode cX2_makeRounds 77 = .ok (.istore 4, 2) := by decide +kernel
theorem dX2_makeRounds_79 : decode cX2_makeRounds 79 = .ok (.goto (-62), 3) := by decide +kernel
theorem dX2_makeRounds_82 : decode cX2_makeRounds 82 = .ok (.iload_n 3, 1) := by decide +kernel
theorem dX2_makeRounds_83 : decode cX2_makeRounds 83 = .ok (.ireturn, 1) := by decide +kernel
theorem dX2_nextSize_0 : decode cX2_nextSize 0 = .ok (.iload_n 1, 1) := by decide +kernel
theorem dX2_nextSize_1 : decode cX2_nextSize 1 = .ok (.istore 4, 2) := by decide +kernel
theorem dX2_nextSize_3 : decode cX2_nextSize 3 = .ok (.aload_n 0, 1) := by decide +kernel
theorem dX2_nextSize_4 : decode cX2_nextSize 4 = .ok (.getfield 32, 3) := by decide +kernel
theorem dX2_nextSize_7 : decode cX2_nextSize 7 = .ok (.iconst 1, 1) := by decide +kernel
theorem dX2_nextSize_8 : decode cX2_nextSize 8 = .ok (.iaload, 1) := by decide +kernel
theorem dX2_nextSize_9 : decode cX2_nextSize 9 = .ok (.iconst 1, 1) := by decide +kernel
theorem dX2_nextSize_10 : decode cX2_nextSize 10 = .ok (.if_icmp .ne 11, 3) := by decide +kernel
theorem dX2_nextSize_13 : decode cX2_nextSize 13 = .ok (.iconst 2, 1) := by decide +kernel
theorem dX2_nextSize_14 : decode cX2_nextSize 14 = .ok (.iload_n 3, 1) := by decide +kernel
theorem dX2_nextSize_15 : decode cX2_nextSize 15 = .ok (.imul, 1) := by decide +kernel
theorem dX2_nextSize_16 : decode cX2_nextSize 16 = .ok (.istore 4, 2) := by decide +kernel
theorem dX2_nextSize_18 : decode cX2_nextSize 18 = .ok (.goto 46, 3) := by decide +kernel
theorem dX2_nextSize_21 : decode cX2_nextSize 21 = .ok (.aload_n 0, 1) := by decide +kernel
theorem dX2_nextSize_22 : decode cX2_nextSize 22 = .ok (.getfield 32, 3) := by decide +kernel
theorem dX2_nextSize_25 : decode cX2_nextSize 25 = .ok (.iconst 1, 1) := by decide +kernel
theorem dX2_nextSize_26 : decode cX2_nextSize 26 = .ok (.iaload, 1) := by decide +kernel
theorem dX2_nextSize_27 : decode cX2_nextSize 27 = .ok (.iconst 2, 1) := by decide +kernel
theorem dX2_nextSize_28 : decode cX2_nextSize 28 = .ok (.if_icmp .ne 36, 3) := by decide +kernel
theorem dX2_nextSize_31 : decode cX2_nextSize 31 = .ok (.iconst 2, 1) := by decide +kernel
theorem dX2_nextSize_32 : decode cX2_nextSize 32 = .ok (.iload_n 3, 1) := by decide +kernel
theorem dX2_nextSize_33 : decode cX2_nextSize 33 = .ok (.imul, 1) := by decide +kernel
theorem dX2_nextSize_34 : decode cX2_nextSize 34 = .ok (.iload_n 2, 1) := by decide +kernel
theorem dX2_nextSize_35 : decode cX2_nextSize 35 = .ok (.if_icmp .le 11, 3) := by decide +kernel
theorem dX2_nextSize_38 : decode cX2_nextSize 38 = .ok (.iconst 2, 1) := by decide +kernel
theorem dX2_nextSize_39 : decode cX2_nextSize 39 = .ok (.iload_n 2, 1) := by decide +kernel
theorem dX2_nextSize_40 : decode cX2_nextSize 40 = .ok (.imul, 1) := by decide +kernel
theorem dX2_nextSize_41 : decode cX2_nextSize 41 = .ok (.istore 4, 2) := by decide +kernel
theorem dX2_nextSize_43 : decode cX2_nextSize 43 = .ok (.goto 21, 3) := by decide +kernel
theorem dX2_nextSize_46 : decode cX2_nextSize 46 = .ok (.iconst 4, 1) := by decide +kernel
theorem dX2_nextSize_47 : decode cX2_nextSize 47 = .ok (.iload_n 3, 1) := by decide +kernel
theorem dX2_nextSize_48 : decode cX2_nextSize 48 = .ok (.imul, 1) := by decide +kernel
theorem dX2_nextSize_49 : decode cX2_nextSize 49 = .ok (.iload_n 2, 1) := by decide +kernel
theorem dX2_nextSize_50 : decode cX2_nextSize 50 = .ok (.if_icmp .gt 11, 3) := by decide +kernel
theorem dX2_nextSize_53 : decode cX2_nextSize 53 = .ok (.iload_n 2, 1) := by decide +kernel
theorem dX2_nextSize_54 : decode cX2_nextSize 54 = .ok (.iconst 2, 1) := by decide +kernel
theorem dX2_nextSize_55 : decode cX2_nextSize 55 = .ok (.idiv, 1) := by decide +kernel
theorem dX2_nextSize_56 : decode cX2_nextSize 56 = .ok (.istore 4, 2) := by decide +kernel
theorem dX2_nextSize_58 : decode cX2_nextSize 58 = .ok (.goto 6, 3) := by decide +kernel
end
section
theorem dX2_nextSize_61 : decode cX2_nextSize 61 = .ok (.iload_n 2, 1) := by decide +kernel
theorem dX2_nextSize_62 : decode cX2_nextSize 62 = .ok (.istore 4, 2) := by decide +kernel
theorem dX2_nextSize_64 : decode cX2_nextSize 64 = .ok (.iconst 1, 1) := by decide +kernel
theorem dX2_nextSize_65 : decode cX2_nextSize 65 = .ok (.bipush 64, 2) := by decide +kernel
theorem dX2_nextSize_67 : decode cX2_nextSize 67 = .ok (.iload 4, 2) := by decide +kernel
theorem dX2_nextSize_69 : decode cX2_nextSize 69 = .ok (.invokestatic 198, 3) := by decide +kernel
theorem dX2_nextSize_72 : decode cX2_nextSize 72 = .ok (.invokestatic 115, 3) := by decide +kernel
theorem dX2_nextSize_75 : decode cX2_nextSize 75 = .ok (.ireturn, 1) := by decide +kernel
theorem dX2_carryOut_0 : decode cX2_carryOut 0 = .ok (.iload_n 1, 1) := by decide +kernel
theorem dX2_carryOut_1 : decode cX2_carryOut 1 = .ok (.bipush 43, 2) := by decide +kernel
theorem dX2_carryOut_3 : decode cX2_carryOut 3 = .ok (.if_icmp .ne 9, 3) := by decide +kernel
theorem dX2_carryOut_6 : decode cX2_carryOut 6 = .ok (.aload_n 0, 1) := by decide +kernel
theorem dX2_carryOut_7 : decode cX2_carryOut 7 = .ok (.iload_n 2, 1) := by decide +kernel
theorem dX2_carryOut_8 : decode cX2_carryOut 8 = .ok (.invokevirtual 201, 3) := by decide +kernel
theorem dX2_carryOut_11 : decode cX2_carryOut 11 = .ok (.ireturn, 1) := by decide +kernel
theorem dX2_carryOut_12 : decode cX2_carryOut 12 = .ok (.iload_n 1, 1) := by decide +kernel
theorem dX2_carryOut_13 : decode cX2_carryOut 13 = .ok (.bipush 45, 2) := by decide +kernel
theorem dX2_carryOut_15 : decode cX2_carryOut 15 = .ok (.if_icmp .ne 9, 3) := by decide +kernel
theorem dX2_carryOut_18 : decode cX2_carryOut 18 = .ok (.aload_n 0, 1) := by decide +kernel
theorem dX2_carryOut_19 : decode cX2_carryOut 19 = .ok (.iload_n 2, 1) := by decide +kernel
theorem dX2_carryOut_20 : decode cX2_carryOut 20 = .ok (.invokevirtual 204, 3) := by decide +kernel
theorem dX2_carryOut_23 : decode cX2_carryOut 23 = .ok (.ireturn, 1) := by decide +kernel
theorem dX2_carryOut_24 : decode cX2_carryOut 24 = .ok (.iload_n 1, 1) := by decide +kernel
theorem dX2_carryOut_25 : decode cX2_carryOut 25 = .ok (.bipush 122, 2) := by decide +kernel
theorem dX2_carryOut_27 : decode cX2_carryOut 27 = .ok (.if_icmp .ne 9, 3) := by decide +kernel
theorem dX2_carryOut_30 : decode cX2_carryOut 30 = .ok (.aload_n 0, 1) := by decide +kernel
theorem dX2_carryOut_31 : decode cX2_carryOut 31 = .ok (.iload_n 2, 1) := by decide +kernel
theorem dX2_carryOut_32 : decode cX2_carryOut 32 = .ok (.invokevirtual 207, 3) := by decide +kernel
theorem dX2_carryOut_35 : decode cX2_carryOut 35 = .ok (.ireturn, 1) := by decide +kernel
theorem dX2_carryOut_36 : decode cX2_carryOut 36 = .ok (.iload_n 1, 1) := by decide +kernel
theorem dX2_carryOut_37 : decode cX2_carryOut 37 = .ok (.bipush 102, 2) := by decide +kernel
theorem dX2_carryOut_39 : decode cX2_carryOut 39 = .ok (.if_icmp .ne 9, 3) := by decide +kernel
theorem dX2_carryOut_42 : decode cX2_carryOut 42 = .ok (.aload_n 0, 1) := by decide +kernel
theorem dX2_carryOut_43 : decode cX2_carryOut 43 = .ok (.iload_n 2, 1) := by decide +kernel
theorem dX2_carryOut_44 : decode cX2_carryOut 44 = .ok (.invokevirtual 191, 3) := by decide +kernel
theorem dX2_carryOut_47 : decode cX2_carryOut 47 = .ok (.ireturn, 1) := by decide +kernel
theorem dX2_carryOut_48 : decode cX2_carryOut 48 = .ok (.iload_n 1, 1) := by decide +kernel
theorem dX2_carryOut_49 : decode cX2_carryOut 49 = .ok (.bipush 97, 2) := by decide +kernel
theorem dX2_carryOut_51 : decode cX2_carryOut 51 = .ok (.if_icmp .ne 8, 3) := by decide +kernel
theorem dX2_carryOut_54 : decode cX2_carryOut 54 = .ok (.aload_n 0, 1) := by decide +kernel
theorem dX2_carryOut_55 : decode cX2_carryOut 55 = .ok (.invokevirtual 210, 3) := by decide +kernel
theorem dX2_carryOut_58 : decode cX2_carryOut 58 = .ok (.ireturn, 1) := by decide +kernel
theorem dX2_carryOut_59 : decode cX2_carryOut 59 = .ok (.aload_n 0, 1) := by decide +kernel
theorem dX2_carryOut_60 : decode cX2_carryOut 60 = .ok (.iload_n 1, 1) := by decide +kernel
theorem dX2_carryOut_61 : decode cX2_carryOut 61 = .ok (.bipush 118, 2) := by decide +kernel
theorem dX2_carryOut_63 : decode cX2_carryOut 63 = .ok (.if_icmp .ne 7, 3) := by decide +kernel
theorem dX2_carryOut_66 : decode cX2_carryOut 66 = .ok (.iconst 1, 1) := by decide +kernel
theorem dX2_carryOut_67 : decode cX2_carryOut 67 = .ok (.goto 4, 3) := by decide +kernel
theorem dX2_carryOut_70 : decode cX2_carryOut 70 = .ok (.iconst 0, 1) := by decide +kernel
theorem dX2_carryOut_71 : decode cX2_carryOut 71 = .ok (.invokevirtual 213, 3) := by decide +kernel
theorem dX2_carryOut_74 : decode cX2_carryOut 74 = .ok (.ireturn, 1) := by decide +kernel
theorem dX3_init_0 : decode cX3_init 0 = .ok (.aload_n 0, 1) := by decide +kernel
theorem dX3_init_1 : decode cX3_init 1 = .ok (.invokespecial 3, 3) := by decide +kernel
theorem dX3_init_4 : decode cX3_init 4 = .ok (.aload_n 0, 1) := by decide +kernel
theorem dX3_init_5 : decode cX3_init 5 = .ok (.iconst 0, 1) := by decide +kernel
theorem dX3_init_6 : decode cX3_init 6 = .ok (.putfield 9, 3) := by decide +kernel
theorem dX3_init_9 : decode cX3_init 9 = .ok (.aload_n 0, 1) := by decide +kernel
theorem dX3_init_10 : decode cX3_init 10 = .ok (.iconst 0, 1) := by decide +kernel
theorem dX3_init_11 : decode cX3_init 11 = .ok (.putfield 15, 3) := by decide +kernel
theorem dX3_init_14 : decode cX3_init 14 = .ok (.aload_n 0, 1) := by decide +kernel
theorem dX3_init_15 : decode cX3_init 15 = .ok (.iconst 0, 1) := by decide +kernel
theorem dX3_init_16 : decode cX3_init 16 = .ok (.putfield 18, 3) := by decide +kernel
theorem dX3_init_19 : decode cX3_init 19 = .ok (.aload_n 0, 1) := by decide +kernel
theorem dX3_init_20 : decode cX3_init 20 = .ok (.iconst 0, 1) := by decide +kernel
theorem dX3_init_21 : decode cX3_init 21 = .ok (.putfield 21, 3) := by decide +kernel
theorem dX3_init_24 : decode cX3_init 24 = .ok (.aload_n 0, 1) := by decide +kernel
theorem dX3_init_25 : decode cX3_init 25 = .ok (.iconst 0, 1) := by decide +kernel
theorem dX3_init_26 : decode cX3_init 26 = .ok (.putfield 24, 3) := by decide +kernel
theorem dX3_init_29 : decode cX3_init 29 = .ok (.aload_n 0, 1) := by decide +kernel
theorem dX3_init_30 : decode cX3_init 30 = .ok (.iconst 0, 1) := by decide +kernel
theorem dX3_init_31 : decode cX3_init 31 = .ok (.putfield 27, 3) := by decide +kernel
theorem dX3_init_34 : decode cX3_init 34 = .ok (.aload_n 0, 1) := by decide +kernel
theorem dX3_init_35 : decode cX3_init 35 = .ok (.iconst 0, 1) := by decide +kernel
theorem dX3_init_36 : decode cX3_init 36 = .ok (.putfield 30, 3) := by decide +kernel
theorem dX3_init_39 : decode cX3_init 39 = .ok (.aload_n 0, 1) := by decide +kernel
theorem dX3_init_40 : decode cX3_init 40 = .ok (.iconst 0, 1) := by decide +kernel
theorem dX3_init_41 : decode cX3_init 41 = .ok (.putfield 33, 3) := by decide +kernel
theorem dX3_init_44 : decode cX3_init 44 = .ok (.return_, 1) := by decide +kernel
theorem dX3_copyFrom_0 : decode cX3_copyFrom 0 = .ok (.aload_n 1, 1) := by decide +kernel
theorem dX3_copyFrom_1 : decode cX3_copyFrom 1 = .ok (.ifnonnull 4, 3) := by decide +kernel
theorem dX3_copyFrom_4 : decode cX3_copyFrom 4 = .ok (.return_, 1) := by decide +kernel
theorem dX3_copyFrom_5 : decode cX3_copyFrom 5 = .ok (.aload_n 0, 1) := by decide +kernel
theorem dX3_copyFrom_6 : decode cX3_copyFrom 6 = .ok (.aload_n 1, 1) := by decide +kernel
theorem dX3_copyFrom_7 : decode cX3_copyFrom 7 = .ok (.getfield 9, 3) := by decide +kernel
theorem dX3_copyFrom_10 : decode cX3_copyFrom 10 = .ok (.putfield 9, 3) := by decide +kernel
theorem dX3_copyFrom_13 : decode cX3_copyFrom 13 = .ok (.aload_n 0, 1) := by decide +kernel
theorem dX3_copyFrom_14 : decode cX3_copyFrom 14 = .ok (.aload_n 1, 1) := by decide +kernel
theorem dX3_copyFrom_15 : decode cX3_copyFrom 15 = .ok (.getfield 15, 3) := by decide +kernel
theorem dX3_copyFrom_18 : decode cX3_copyFrom 18 = .ok (.putfield 15, 3) := by decide +kernel
theorem dX3_copyFrom_21 : decode cX3_copyFrom 21 = .ok (.aload_n 0, 1) := by decide +kernel
theorem dX3_copyFrom_22 : decode cX3_copyFrom 22 = .ok (.aload_n 1, 1) := by decide +kernel
theorem dX3_copyFrom_23 : decode cX3_copyFrom 23 = .ok (.getfield 18, 3) := by decide +kernel
theorem dX3_copyFrom_26 : decode cX3_copyFrom 26 = .ok (.putfield 18, 3) := by decide +kernel
theorem dX3_copyFrom_29 : decode cX3_copyFrom 29 = .ok (.aload_n 0, 1) := by decide +kernel
theorem dX3_copyFrom_30 : decode cX3_copyFrom 30 = .ok (.aload_n 1, 1) := by decide +kernel
theorem dX3_copyFrom_31 : decode cX3_copyFrom 31 = .ok (.getfield 21, 3) := by decide +kernel
theorem dX3_copyFrom_34 : decode cX3_copyFrom 34 = .ok (.putfield 21, 3) := by decide +kernel
theorem dX3_copyFrom_37 : decode cX3_copyFrom 37 = .ok (.aload_n 0, 1) := by decide +kernel
theorem dX3_copyFrom_38 : decode cX3_copyFrom 38 = .ok (.aload_n 1, 1) := by decide +kernel
theorem dX3_copyFrom_39 : decode cX3_copyFrom 39 = .ok (.getfield 24, 3) := by decide +kernel
theorem dX3_copyFrom_42 : decode cX3_copyFrom 42 = .ok (.putfield 24, 3) := by decide +kernel
theorem dX3_copyFrom_45 : decode cX3_copyFrom 45 = .ok (.aload_n 0, 1) := by decide +kernel
theorem dX3_copyFrom_46 : decode cX3_copyFrom 46 = .ok (.aload_n 1, 1) := by decide +kernel
theorem dX3_copyFrom_47 : decode cX3_copyFrom 47 = .ok (.getfield 27, 3) := by decide +kernel
theorem dX3_copyFrom_50 : decode cX3_copyFrom 50 = .ok (.putfield 27, 3) := by decide +kernel
theorem dX3_copyFrom_53 : decode cX3_copyFrom 53 = .ok (.aload_n 0, 1) := by decide +kernel
theorem dX3_copyFrom_54 : decode cX3_copyFrom 54 = .ok (.aload_n 1, 1) := by decide +kernel
theorem dX3_copyFrom_55 : decode cX3_copyFrom 55 = .ok (.getfield 30, 3) := by decide +kernel
theorem dX3_copyFrom_58 : decode cX3_copyFrom 58 = .ok (.putfield 30, 3) := by decide +kernel
theorem dX3_copyFrom_61 : decode cX3_copyFrom 61 = .ok (.aload_n 0, 1) := by decide +kernel
theorem dX3_copyFrom_62 : decode cX3_copyFrom 62 = .ok (.aload_n 1, 1) := by decide +kernel
theorem dX3_copyFrom_63 : decode cX3_copyFrom 63 = .ok (.getfield 33, 3) := by decide +kernel
theorem dX3_copyFrom_66 : decode cX3_copyFrom 66 = .ok (.putfield 33, 3) := by decide +kernel
theorem dX3_copyFrom_69 : decode cX3_copyFrom 69 = .ok (.return_, 1) := by decide +kernel
theorem dX3_numberOf_0 : decode cX3_numberOf 0 = .ok (.iload_n 1, 1) := by decide +kernel
theorem dX3_numberOf_1 : decode cX3_numberOf 1 = .ok (.tableswitch 99 4 14 #[59, 64, 69, 74, 79, 84, 89, 99, 99, 99, 94], 59) := by decide +kernel
theorem dX3_numberOf_60 : decode cX3_numberOf 60 = .ok (.aload_n 0, 1) := by decide +kernel
theorem dX3_numberOf_61 : decode cX3_numberOf 61 = .ok (.getfield 9, 3) := by decide +kernel
theorem dX3_numberOf_64 : decode cX3_numberOf 64 = .ok (.ireturn, 1) := by decide +kernel
theorem dX3_numberOf_65 : decode cX3_numberOf 65 = .ok (.aload_n 0, 1) := by decide +kernel
theorem dX3_numberOf_66 : decode cX3_numberOf 66 = .ok (.getfield 15, 3) := by decide +kernel
theorem dX3_numberOf_69 : decode cX3_numberOf 69 = .ok (.ireturn, 1) := by decide +kernel
theorem dX3_numberOf_70 : decode cX3_numberOf 70 = .ok (.aload_n 0, 1) := by decide +kernel
theorem dX3_numberOf_71 : decode cX3_numberOf 71 = .ok (.getfield 18, 3) := by decide +kernel
theorem dX3_numberOf_74 : decode cX3_numberOf 74 = .ok (.ireturn, 1) := by decide +kernel
theorem dX3_numberOf_75 : decode cX3_numberOf 75 = .ok (.aload_n 0, 1) := by decide +kernel
theorem dX3_numberOf_76 : decode cX3_numberOf 76 = .ok (.getfield 21, 3) := by decide +kernel
theorem dX3_numberOf_79 : decode cX3_numberOf 79 = .ok (.ireturn, 1) := by decide +kernel
theorem dX3_numberOf_80 : decode cX3_numberOf 80 = .ok (.aload_n 0, 1) := by decide +kernel
theorem dX3_numberOf_81 : decode cX3_numberOf 81 = .ok (.getfield 24, 3) := by decide +kernel
theorem dX3_numberOf_84 : decode cX3_numberOf 84 = .ok (.ireturn, 1) := by decide +kernel
theorem dX3_numberOf_85 : decode cX3_numberOf 85 = .ok (.aload_n 0, 1) := by decide +kernel
theorem dX3_numberOf_86 : decode cX3_numberOf 86 = .ok (.getfield 27, 3) := by decide +kernel
theorem dX3_numberOf_89 : decode cX3_numberOf 89 = .ok (.ireturn, 1) := by decide +kernel
theorem dX3_numberOf_90 : decode cX3_numberOf 90 = .ok (.aload_n 0, 1) := by decide +kernel
theorem dX3_numberOf_91 : decode cX3_numberOf 91 = .ok (.getfield 30, 3) := by decide +kernel
theorem dX3_numberOf_94 : decode cX3_numberOf 94 = .ok (.ireturn, 1) := by decide +kernel
theorem dX3_numberOf_95 : decode cX3_numberOf 95 = .ok (.aload_n 0, 1) := by decide +kernel
theorem dX3_numberOf_96 : decode cX3_numberOf 96 = .ok (.getfield 33, 3) := by decide +kernel
theorem dX3_numberOf_99 : decode cX3_numberOf 99 = .ok (.ireturn, 1) := by decide +kernel
theorem dX3_numberOf_100 : decode cX3_numberOf 100 = .ok (.bipush (-2), 2) := by decide +kernel
theorem dX3_numberOf_102 : decode cX3_numberOf 102 = .ok (.ireturn, 1) := by decide +kernel
theorem dX4_init_0 : decode cX4_init 0 = .ok (.aload_n 0, 1) := by decide +kernel
theorem dX4_init_1 : decode cX4_init 1 = .ok (.invokespecial 3, 3) := by decide +kernel
theorem dX4_init_4 : decode cX4_init 4 = .ok (.aload_n 0, 1) := by decide +kernel
theorem dX4_init_5 : decode cX4_init 5 = .ok (.bipush 60, 2) := by decide +kernel
theorem dX4_init_7 : decode cX4_init 7 = .ok (.newarray .char, 2) := by decide +kernel
theorem dX4_init_9 : decode cX4_init 9 = .ok (.putfield 9, 3) := by decide +kernel
theorem dX4_init_12 : decode cX4_init 12 = .ok (.aload_n 0, 1) := by decide +kernel
theorem dX4_init_13 : decode cX4_init 13 = .ok (.iconst 0, 1) := by decide +kernel
theorem dX4_init_14 : decode cX4_init 14 = .ok (.putfield 15, 3) := by decide +kernel
theorem dX4_init_17 : decode cX4_init 17 = .ok (.aload_n 0, 1) := by decide +kernel
theorem dX4_init_18 : decode cX4_init 18 = .ok (.bipush 30, 2) := by decide +kernel
theorem dX4_init_20 : decode cX4_init 20 = .ok (.newarray .char, 2) := by decide +kernel
theorem dX4_init_22 : decode cX4_init 22 = .ok (.putfield 19, 3) := by decide +kernel
theorem dX4_init_25 : decode cX4_init 25 = .ok (.aload_n 0, 1) := by decide +kernel
theorem dX4_init_26 : decode cX4_init 26 = .ok (.bipush 30, 2) := by decide +kernel
theorem dX4_init_28 : decode cX4_init 28 = .ok (.newarray .int, 2) := by decide +kernel
theorem dX4_init_30 : decode cX4_init 30 = .ok (.putfield 22, 3) := by decide +kernel
theorem dX4_init_33 : decode cX4_init 33 = .ok (.aload_n 0, 1) := by decide +kernel
theorem dX4_init_34 : decode cX4_init 34 = .ok (.iconst 0, 1) := by decide +kernel
theorem dX4_init_35 : decode cX4_init 35 = .ok (.putfield 26, 3) := by decide +kernel
theorem dX4_init_38 : decode cX4_init 38 = .ok (.aload_n 0, 1) := by decide +kernel
theorem dX4_init_39 : decode cX4_init 39 = .ok (.iconst 0, 1) := by decide +kernel
theorem dX4_init_40 : decode cX4_init 40 = .ok (.putfield 29, 3) := by decide +kernel
theorem dX4_init_43 : decode cX4_init 43 = .ok (.aload_n 0, 1) := by decide +kernel
theorem dX4_init_44 : decode cX4_init 44 = .ok (.iconst 0, 1) := by decide +kernel
theorem dX4_init_45 : decode cX4_init 45 = .ok (.putfield 32, 3) := by decide +kernel
theorem dX4_init_48 : decode cX4_init 48 = .ok (.return_, 1) := by decide +kernel
theorem dX4_length_0 : decode cX4_length 0 = .ok (.aload_n 0, 1) := by decide +kernel
theorem dX4_length_1 : decode cX4_length 1 = .ok (.getfield 15, 3) := by decide +kernel
theorem dX4_length_4 : decode cX4_length 4 = .ok (.ireturn, 1) := by decide +kernel
theorem dX4_append_0 : decode cX4_append 0 = .ok (.aload_n 0, 1) := by decide +kernel
theorem dX4_append_1 : decode cX4_append 1 = .ok (.getfield 15, 3) := by decide +kernel
theorem dX4_append_4 : decode cX4_append 4 = .ok (.ifCond .lt 12, 3) := by decide +kernel
theorem dX4_append_7 : decode cX4_append 7 = .ok (.aload_n 0, 1) := by decide +kernel
theorem dX4_append_8 : decode cX4_append 8 = .ok (.getfield 15, 3) := by decide +kernel
theorem dX4_append_11 : decode cX4_append 11 = .ok (.bipush 60, 2) := by decide +kernel
theorem dX4_append_13 : decode cX4_append 13 = .ok (.if_icmp .lt 6, 3) := by decide +kernel
theorem dX4_append_16 : decode cX4_append 16 = .ok (.bipush (-3), 2) := by decide +kernel
theorem dX4_append_18 : decode cX4_append 18 = .ok (.ireturn, 1) := by decide +kernel
theorem dX4_append_19 : decode cX4_append 19 = .ok (.aload_n 0, 1) := by decide +kernel
theorem dX4_append_20 : decode cX4_append 20 = .ok (.getfield 9, 3) := by decide +kernel
theorem dX4_append_23 : decode cX4_append 23 = .ok (.aload_n 0, 1) := by decide +kernel
theorem dX4_append_24 : decode cX4_append 24 = .ok (.getfield 15, 3) := by decide +kernel
theorem dX4_append_27 : decode cX4_append 27 = .ok (.iload_n 1, 1) := by decide +kernel
theorem dX4_append_28 : decode cX4_append 28 = .ok (.castore, 1) := by decide +kernel
theorem dX4_append_29 : decode cX4_append 29 = .ok (.aload_n 0, 1) := by decide +kernel
theorem dX4_append_30 : decode cX4_append 30 = .ok (.dup, 1) := by decide +kernel
theorem dX4_append_31 : decode cX4_append 31 = .ok (.getfield 15, 3) := by decide +kernel
theorem dX4_append_34 : decode cX4_append 34 = .ok (.iconst 1, 1) := by decide +kernel
theorem dX4_append_35 : decode cX4_append 35 = .ok (.iadd, 1) := by decide +kernel
theorem dX4_append_36 : decode cX4_append 36 = .ok (.putfield 15, 3) := by decide +kernel
theorem dX4_append_39 : decode cX4_append 39 = .ok (.aload_n 0, 1) := by decide +kernel
theorem dX4_append_40 : decode cX4_append 40 = .ok (.getfield 15, 3) := by decide +kernel
theorem dX4_append_43 : decode cX4_append 43 = .ok (.ireturn, 1) := by decide +kernel
theorem dX4_empty_0 : decode cX4_empty 0 = .ok (.aload_n 0, 1) := by decide +kernel
theorem dX4_empty_1 : decode cX4_empty 1 = .ok (.getfield 15, 3) := by decide +kernel
theorem dX4_empty_4 : decode cX4_empty 4 = .ok (.istore_n 1, 1) := by decide +kernel
theorem dX4_empty_5 : decode cX4_empty 5 = .ok (.aload_n 0, 1) := by decide +kernel
theorem dX4_empty_6 : decode cX4_empty 6 = .ok (.iconst 0, 1) := by decide +kernel
theorem dX4_empty_7 : decode cX4_empty 7 = .ok (.putfield 15, 3) := by decide +kernel
theorem dX4_empty_10 : decode cX4_empty 10 = .ok (.iload_n 1, 1) := by decide +kernel
theorem dX4_empty_11 : decode cX4_empty 11 = .ok (.ireturn, 1) := by decide +kernel
theorem dX4_orders_0 : decode cX4_orders 0 = .ok (.aload_n 0, 1) := by decide +kernel
theorem dX4_orders_1 : decode cX4_orders 1 = .ok (.getfield 26, 3) := by decide +kernel
theorem dX4_orders_4 : decode cX4_orders 4 = .ok (.ireturn, 1) := by decide +kernel
theorem dX4_kindAt_0 : decode cX4_kindAt 0 = .ok (.iload_n 1, 1) := by decide +kernel
theorem dX4_kindAt_1 : decode cX4_kindAt 1 = .ok (.ifCond .lt 18, 3) := by decide +kernel
theorem dX4_kindAt_4 : decode cX4_kindAt 4 = .ok (.iload_n 1, 1) := by decide +kernel
theorem dX4_kindAt_5 : decode cX4_kindAt 5 = .ok (.bipush 30, 2) := by decide +kernel
theorem dX4_kindAt_7 : decode cX4_kindAt 7 = .ok (.if_icmp .ge 12, 3) := by decide +kernel
theorem dX4_kindAt_10 : decode cX4_kindAt 10 = .ok (.aload_n 0, 1) := by decide +kernel
theorem dX4_kindAt_11 : decode cX4_kindAt 11 = .ok (.getfield 19, 3) := by decide +kernel
theorem dX4_kindAt_14 : decode cX4_kindAt 14 = .ok (.iload_n 1, 1) := by decide +kernel
theorem dX4_kindAt_15 : decode cX4_kindAt 15 = .ok (.caload, 1) := by decide +kernel
theorem dX4_kindAt_16 : decode cX4_kindAt 16 = .ok (.goto 4, 3) := by decide +kernel
theorem dX4_kindAt_19 : decode cX4_kindAt 19 = .ok (.iconst 0, 1) := by decide +kernel
theorem dX4_kindAt_20 : decode cX4_kindAt 20 = .ok (.ireturn, 1) := by decide +kernel
theorem dX4_numberAt_0 : decode cX4_numberAt 0 = .ok (.iload_n 1, 1) := by decide +kernel
theorem dX4_numberAt_1 : decode cX4_numberAt 1 = .ok (.ifCond .lt 18, 3) := by decide +kernel
theorem dX4_numberAt_4 : decode cX4_numberAt 4 = .ok (.iload_n 1, 1) := by decide +kernel
theorem dX4_numberAt_5 : decode cX4_numberAt 5 = .ok (.bipush 30, 2) := by decide +kernel
theorem dX4_numberAt_7 : decode cX4_numberAt 7 = .ok (.if_icmp .ge 12, 3) := by decide +kernel
theorem dX4_numberAt_10 : decode cX4_numberAt 10 = .ok (.aload_n 0, 1) := by decide +kernel
theorem dX4_numberAt_11 : decode cX4_numberAt 11 = .ok (.getfield 22, 3) := by decide +kernel
theorem dX4_numberAt_14 : decode cX4_numberAt 14 = .ok (.iload_n 1, 1) := by decide +kernel
theorem dX4_numberAt_15 : decode cX4_numberAt 15 = .ok (.iaload, 1) := by decide +kernel
theorem dX4_numberAt_16 : decode cX4_numberAt 16 = .ok (.goto 4, 3) := by decide +kernel
theorem dX4_numberAt_19 : decode cX4_numberAt 19 = .ok (.iconst 0, 1) := by decide +kernel
theorem dX4_numberAt_20 : decode cX4_numberAt 20 = .ok (.ireturn, 1) := by decide +kernel
theorem dX4_readOrders_0 : decode cX4_readOrders 0 = .ok (.aload_n 0, 1) := by decide +kernel
theorem dX4_readOrders_1 : decode cX4_readOrders 1 = .ok (.iconst 0, 1) := by decide +kernel
theorem dX4_readOrders_2 : decode cX4_readOrders 2 = .ok (.putfield 26, 3) := by decide +kernel
theorem dX4_readOrders_5 : decode cX4_readOrders 5 = .ok (.aload_n 0, 1) := by decide +kernel
theorem dX4_readOrders_6 : decode cX4_readOrders 6 = .ok (.iconst 0, 1) := by decide +kernel
theorem dX4_readOrders_7 : decode cX4_readOrders 7 = .ok (.putfield 29, 3) := by decide +kernel
theorem dX4_readOrders_10 : decode cX4_readOrders 10 = .ok (.iconst 0, 1) := by decide +kernel
theorem dX4_readOrders_11 : decode cX4_readOrders 11 = .ok (.istore_n 1, 1) := by decide +kernel
theorem dX4_readOrders_12 : decode cX4_readOrders 12 = .ok (.iload_n 1, 1) := by decide +kernel
theorem dX4_readOrders_13 : decode cX4_readOrders 13 = .ok (.bipush 30, 2) := by decide +kernel
theorem dX4_readOrders_15 : decode cX4_readOrders 15 = .ok (.if_icmp .gt 62, 3) := by decide +kernel
theorem dX4_readOrders_18 : decode cX4_readOrders 18 = .ok (.aload_n 0, 1) := by decide +kernel
theorem dX4_readOrders_19 : decode cX4_readOrders 19 = .ok (.invokevirtual 35, 3) := by decide +kernel
theorem dX4_readOrders_22 : decode cX4_readOrders 22 = .ok (.ifCond .ne 8, 3) := by decide +kernel
theorem dX4_readOrders_25 : decode cX4_readOrders 25 = .ok (.aload_n 0, 1) := by decide +kernel
theorem dX4_readOrders_26 : decode cX4_readOrders 26 = .ok (.getfield 29, 3) := by decide +kernel
theorem dX4_readOrders_29 : decode cX4_readOrders 29 = .ok (.ireturn, 1) := by decide +kernel
theorem dX4_readOrders_30 : decode cX4_readOrders 30 = .ok (.aload_n 0, 1) := by decide +kernel
theorem dX4_readOrders_31 : decode cX4_readOrders 31 = .ok (.getfield 29, 3) := by decide +kernel
theorem dX4_readOrders_34 : decode cX4_readOrders 34 = .ok (.aload_n 0, 1) := by decide +kernel
theorem dX4_readOrders_35 : decode cX4_readOrders 35 = .ok (.getfield 15, 3) := by decide +kernel
theorem dX4_readOrders_38 : decode cX4_readOrders 38 = .ok (.if_icmp .lt 5, 3) := by decide +kernel
theorem dX4_readOrders_41 : decode cX4_readOrders 41 = .ok (.iconst (-1), 1) := by decide +kernel
theorem dX4_readOrders_42 : decode cX4_readOrders 42 = .ok (.ireturn, 1) := by decide +kernel
theorem dX4_readOrders_43 : decode cX4_readOrders 43 = .ok (.aload_n 0, 1) := by decide +kernel
theorem dX4_readOrders_44 : decode cX4_readOrders 44 = .ok (.aload_n 0, 1) := by decide +kernel
theorem dX4_readOrders_45 : decode cX4_readOrders 45 = .ok (.getfield 29, 3) := by decide +kernel
theorem dX4_readOrders_48 : decode cX4_readOrders 48 = .ok (.invokevirtual 39, 3) := by decide +kernel
theorem dX4_readOrders_51 : decode cX4_readOrders 51 = .ok (.bipush 59, 2) := by decide +kernel
theorem dX4_readOrders_53 : decode cX4_readOrders 53 = .ok (.if_icmp .eq 8, 3) := by decide +kernel
theorem dX4_readOrders_56 : decode cX4_readOrders 56 = .ok (.aload_n 0, 1) := by decide +kernel
theorem dX4_readOrders_57 : decode cX4_readOrders 57 = .ok (.getfield 29, 3) := by decide +kernel
theorem dX4_readOrders_60 : decode cX4_readOrders 60 = .ok (.ireturn, 1) := by decide +kernel
theorem dX4_readOrders_61 : decode cX4_readOrders 61 = .ok (.aload_n 0, 1) := by decide +kernel
theorem dX4_readOrders_62 : decode cX4_readOrders 62 = .ok (.dup, 1) := by decide +kernel
theorem dX4_readOrders_63 : decode cX4_readOrders 63 = .ok (.getfield 29, 3) := by decide +kernel
theorem dX4_readOrders_66 : decode cX4_readOrders 66 = .ok (.iconst 1, 1) := by decide +kernel
theorem dX4_readOrders_67 : decode cX4_readOrders 67 = .ok (.iadd, 1) := by decide +kernel
theorem dX4_readOrders_68 : decode cX4_readOrders 68 = .ok (.putfield 29, 3) := by decide +kernel
theorem dX4_readOrders_71 : decode cX4_readOrders 71 = .ok (.iinc 1 1, 3) := by decide +kernel
theorem dX4_readOrders_74 : decode cX4_readOrders 74 = .ok (.goto (-62), 3) := by decide +kernel
theorem dX4_readOrders_77 : decode cX4_readOrders 77 = .ok (.aload_n 0, 1) := by decide +kernel
theorem dX4_readOrders_78 : decode cX4_readOrders 78 = .ok (.getfield 29, 3) := by decide +kernel
theorem dX4_readOrders_81 : decode cX4_readOrders 81 = .ok (.ireturn, 1) := by decide +kernel
theorem dX4_readOrder_0 : decode cX4_readOrder 0 = .ok (.aload_n 0, 1) := by decide +kernel
theorem dX4_readOrder_1 : decode cX4_readOrder 1 = .ok (.aload_n 0, 1) := by decide +kernel
theorem dX4_readOrder_2 : decode cX4_readOrder 2 = .ok (.getfield 29, 3) := by decide +kernel
theorem dX4_readOrder_5 : decode cX4_readOrder 5 = .ok (.invokevirtual 39, 3) := by decide +kernel
theorem dX4_readOrder_8 : decode cX4_readOrder 8 = .ok (.istore_n 1, 1) := by decide +kernel
theorem dX4_readOrder_9 : decode cX4_readOrder 9 = .ok (.iload_n 1, 1) := by decide +kernel
theorem dX4_readOrder_10 : decode cX4_readOrder 10 = .ok (.bipush 43, 2) := by decide +kernel
theorem dX4_readOrder_12 : decode cX4_readOrder 12 = .ok (.if_icmp .eq 15, 3) := by decide +kernel
theorem dX4_readOrder_15 : decode cX4_readOrder 15 = .ok (.iload_n 1, 1) := by decide +kernel
theorem dX4_readOrder_16 : decode cX4_readOrder 16 = .ok (.bipush 45, 2) := by decide +kernel
theorem dX4_readOrder_18 : decode cX4_readOrder 18 = .ok (.if_icmp .eq 9, 3) := by decide +kernel
theorem dX4_readOrder_21 : decode cX4_readOrder 21 = .ok (.iload_n 1, 1) := by decide +kernel
theorem dX4_readOrder_22 : decode cX4_readOrder 22 = .ok (.bipush 122, 2) := by decide +kernel
theorem dX4_readOrder_24 : decode cX4_readOrder 24 = .ok (.if_icmp .ne 7, 3) := by decide +kernel
theorem dX4_readOrder_27 : decode cX4_readOrder 27 = .ok (.iconst 1, 1) := by decide +kernel
theorem dX4_readOrder_28 : decode cX4_readOrder 28 = .ok (.goto 4, 3) := by decide +kernel
theorem dX4_readOrder_31 : decode cX4_readOrder 31 = .ok (.iconst 0, 1) := by decide +kernel
theorem dX4_readOrder_32 : decode cX4_readOrder 32 = .ok (.istore_n 2, 1) := by decide +kernel
theorem dX4_readOrder_33 : decode cX4_readOrder 33 = .ok (.iload_n 1, 1) := by decide +kernel
theorem dX4_readOrder_34 : decode cX4_readOrder 34 = .ok (.bipush 102, 2) := by decide +kernel
theorem dX4_readOrder_36 : decode cX4_readOrder 36 = .ok (.if_icmp .ne 7, 3) := by decide +kernel
theorem dX4_readOrder_39 : decode cX4_readOrder 39 = .ok (.iconst 1, 1) := by decide +kernel
theorem dX4_readOrder_40 : decode cX4_readOrder 40 = .ok (.goto 4, 3) := by decide +kernel
theorem dX4_readOrder_43 : decode cX4_readOrder 43 = .ok (.iconst 0, 1) := by decide +kernel
theorem dX4_readOrder_44 : decode cX4_readOrder 44 = .ok (.istore_n 3, 1) := by decide +kernel
theorem dX4_readOrder_45 : decode cX4_readOrder 45 = .ok (.iload_n 1, 1) := by decide +kernel
theorem dX4_readOrder_46 : decode cX4_readOrder 46 = .ok (.bipush 119, 2) := by decide +kernel
theorem dX4_readOrder_48 : decode cX4_readOrder 48 = .ok (.if_icmp .eq 15, 3) := by decide +kernel
theorem dX4_readOrder_51 : decode cX4_readOrder 51 = .ok (.iload_n 1, 1) := by decide +kernel
theorem dX4_readOrder_52 : decode cX4_readOrder 52 = .ok (.bipush 118, 2) := by decide +kernel
theorem dX4_readOrder_54 : decode cX4_readOrder 54 = .ok (.if_icmp .eq 9, 3) := by decide +kernel
theorem dX4_readOrder_57 : decode cX4_readOrder 57 = .ok (.iload_n 1, 1) := by decide +kernel
theorem dX4_readOrder_58 : decode cX4_readOrder 58 = .ok (.bipush 97, 2) := by decide +kernel
theorem dX4_readOrder_60 : decode cX4_readOrder 60 = .ok (.if_icmp .ne 7, 3) := by decide +kernel
theorem dX4_readOrder_63 : decode cX4_readOrder 63 = .ok (.iconst 1, 1) := by decide +kernel
theorem dX4_readOrder_64 : decode cX4_readOrder 64 = .ok (.goto 4, 3) := by decide +kernel
theorem dX4_readOrder_67 : decode cX4_readOrder 67 = .ok (.iconst 0, 1) := by decide +kernel
theorem dX4_readOrder_68 : decode cX4_readOrder 68 = .ok (.istore 4, 2) := by decide +kernel
theorem dX4_readOrder_70 : decode cX4_readOrder 70 = .ok (.iload_n 2, 1) := by decide +kernel
theorem dX4_readOrder_71 : decode cX4_readOrder 71 = .ok (.ifCond .ne 14, 3) := by decide +kernel
theorem dX4_readOrder_74 : decode cX4_readOrder 74 = .ok (.iload_n 3, 1) := by decide +kernel
theorem dX4_readOrder_75 : decode cX4_readOrder 75 = .ok (.ifCond .ne 10, 3) := by decide +kernel
theorem dX4_readOrder_78 : decode cX4_readOrder 78 = .ok (.iload 4, 2) := by decide +kernel
theorem dX4_readOrder_80 : decode cX4_readOrder 80 = .ok (.ifCond .ne 5, 3) := by decide +kernel
theorem dX4_readOrder_83 : decode cX4_readOrder 83 = .ok (.iconst 0, 1) := by decide +kernel
theorem dX4_readOrder_84 : decode cX4_readOrder 84 = .ok (.ireturn, 1) := by decide +kernel
theorem dX4_readOrder_85 : decode cX4_readOrder 85 = .ok (.aload_n 0, 1) := by decide +kernel
theorem dX4_readOrder_86 : decode cX4_readOrder 86 = .ok (.dup, 1) := by decide +kernel
theorem dX4_readOrder_87 : decode cX4_readOrder 87 = .ok (.getfield 29, 3) := by decide +kernel
theorem dX4_readOrder_90 : decode cX4_readOrder 90 = .ok (.iconst 1, 1) := by decide +kernel
theorem dX4_readOrder_91 : decode cX4_readOrder 91 = .ok (.iadd, 1) := by decide +kernel
theorem dX4_readOrder_92 : decode cX4_readOrder 92 = .ok (.putfield 29, 3) := by decide +kernel
theorem dX4_readOrder_95 : decode cX4_readOrder 95 = .ok (.aload_n 0, 1) := by decide +kernel
theorem dX4_readOrder_96 : decode cX4_readOrder 96 = .ok (.iconst 0, 1) := by decide +kernel
theorem dX4_readOrder_97 : decode cX4_readOrder 97 = .ok (.putfield 32, 3) := by decide +kernel
theorem dX4_readOrder_100 : decode cX4_readOrder 100 = .ok (.iload_n 2, 1) := by decide +kernel
theorem dX4_readOrder_101 : decode cX4_readOrder 101 = .ok (.ifCond .eq 16, 3) := by decide +kernel
theorem dX4_readOrder_104 : decode cX4_readOrder 104 = .ok (.aload_n 0, 1) := by decide +kernel
theorem dX4_readOrder_105 : decode cX4_readOrder 105 = .ok (.iconst 0, 1) := by decide +kernel
theorem dX4_readOrder_106 : decode cX4_readOrder 106 = .ok (.sipush 255, 3) := by decide +kernel
theorem dX4_readOrder_109 : decode cX4_readOrder 109 = .ok (.invokevirtual 43, 3) := by decide +kernel
theorem dX4_readOrder_112 : decode cX4_readOrder 112 = .ok (.ifCond .ne 5, 3) := by decide +kernel
theorem dX4_readOrder_115 : decode cX4_readOrder 115 = .ok (.iconst 0, 1) := by decide +kernel
theorem dX4_readOrder_116 : decode cX4_readOrder 116 = .ok (.ireturn, 1) := by decide +kernel
theorem dX4_readOrder_117 : decode cX4_readOrder 117 = .ok (.iload_n 3, 1) := by decide +kernel
theorem dX4_readOrder_118 : decode cX4_readOrder 118 = .ok (.ifCond .eq 15, 3) := by decide +kernel
theorem dX4_readOrder_121 : decode cX4_readOrder 121 = .ok (.aload_n 0, 1) := by decide +kernel
theorem dX4_readOrder_122 : decode cX4_readOrder 122 = .ok (.iconst 1, 1) := by decide +kernel
theorem dX4_readOrder_123 : decode cX4_readOrder 123 = .ok (.bipush 64, 2) := by decide +kernel
theorem dX4_readOrder_125 : decode cX4_readOrder 125 = .ok (.invokevirtual 43, 3) := by decide +kernel
theorem dX4_readOrder_128 : decode cX4_readOrder 128 = .ok (.ifCond .ne 5, 3) := by decide +kernel
theorem dX4_readOrder_131 : decode cX4_readOrder 131 = .ok (.iconst 0, 1) := by decide +kernel
theorem dX4_readOrder_132 : decode cX4_readOrder 132 = .ok (.ireturn, 1) := by decide +kernel
theorem dX4_readOrder_133 : decode cX4_readOrder 133 = .ok (.aload_n 0, 1) := by decide +kernel
theorem dX4_readOrder_134 : decode cX4_readOrder 134 = .ok (.getfield 26, 3) := by decide +kernel
theorem dX4_readOrder_137 : decode cX4_readOrder 137 = .ok (.ifCond .lt 45, 3) := by decide +kernel
theorem dX4_readOrder_140 : decode cX4_readOrder 140 = .ok (.aload_n 0, 1) := by decide +kernel
theorem dX4_readOrder_141 : decode cX4_readOrder 141 = .ok (.getfield 26, 3) := by decide +kernel
theorem dX4_readOrder_144 : decode cX4_readOrder 144 = .ok (.bipush 30, 2) := by decide +kernel
theorem dX4_readOrder_146 : decode cX4_readOrder 146 = .ok (.if_icmp .ge 36, 3) := by decide +kernel
theorem dX4_readOrder_149 : decode cX4_readOrder 149 = .ok (.aload_n 0, 1) := by decide +kernel
theorem dX4_readOrder_150 : decode cX4_readOrder 150 = .ok (.getfield 19, 3) := by decide +kernel
theorem dX4_readOrder_153 : decode cX4_readOrder 153 = .ok (.aload_n 0, 1) := by decide +kernel
theorem dX4_readOrder_154 : decode cX4_readOrder 154 = .ok (.getfield 26, 3) := by decide +kernel
theorem dX4_readOrder_157 : decode cX4_readOrder 157 = .ok (.iload_n 1, 1) := by decide +kernel
theorem dX4_readOrder_158 : decode cX4_readOrder 158 = .ok (.castore, 1) := by decide +kernel
theorem dX4_readOrder_159 : decode cX4_readOrder 159 = .ok (.aload_n 0, 1) := by decide +kernel
theorem dX4_readOrder_160 : decode cX4_readOrder 160 = .ok (.getfield 22, 3) := by decide +kernel
theorem dX4_readOrder_163 : decode cX4_readOrder 163 = .ok (.aload_n 0, 1) := by decide +kernel
theorem dX4_readOrder_164 : decode cX4_readOrder 164 = .ok (.getfield 26, 3) := by decide +kernel
theorem dX4_readOrder_167 : decode cX4_readOrder 167 = .ok (.aload_n 0, 1) := by decide +kernel
theorem dX4_readOrder_168 : decode cX4_readOrder 168 = .ok (.getfield 32, 3) := by decide +kernel
theorem dX4_readOrder_171 : decode cX4_readOrder 171 = .ok (.iastore, 1) := by decide +kernel
theorem dX4_readOrder_172 : decode cX4_readOrder 172 = .ok (.aload_n 0, 1) := by decide +kernel
theorem dX4_readOrder_173 : decode cX4_readOrder 173 = .ok (.dup, 1) := by decide +kernel
theorem dX4_readOrder_174 : decode cX4_readOrder 174 = .ok (.getfield 26, 3) := by decide +kernel
theorem dX4_readOrder_177 : decode cX4_readOrder 177 = .ok (.iconst 1, 1) := by decide +kernel
theorem dX4_readOrder_178 : decode cX4_readOrder 178 = .ok (.iadd, 1) := by decide +kernel
theorem dX4_readOrder_179 : decode cX4_readOrder 179 = .ok (.putfield 26, 3) := by decide +kernel
theorem dX4_readOrder_182 : decode cX4_readOrder 182 = .ok (.iconst 1, 1) := by decide +kernel
theorem dX4_readOrder_183 : decode cX4_readOrder 183 = .ok (.ireturn, 1) := by decide +kernel
theorem dX4_readNumber_0 : decode cX4_readNumber 0 = .ok (.aload_n 0, 1) := by decide +kernel
theorem dX4_readNumber_1 : decode cX4_readNumber 1 = .ok (.aload_n 0, 1) := by decide +kernel
theorem dX4_readNumber_2 : decode cX4_readNumber 2 = .ok (.getfield 29, 3) := by decide +kernel
theorem dX4_readNumber_5 : decode cX4_readNumber 5 = .ok (.invokevirtual 47, 3) := by decide +kernel
theorem dX4_readNumber_8 : decode cX4_readNumber 8 = .ok (.istore_n 3, 1) := by decide +kernel
theorem dX4_readNumber_9 : decode cX4_readNumber 9 = .ok (.iload_n 3, 1) := by decide +kernel
theorem dX4_readNumber_10 : decode cX4_readNumber 10 = .ok (.ifCond .lt 8, 3) := by decide +kernel
theorem dX4_readNumber_13 : decode cX4_readNumber 13 = .ok (.iload_n 3, 1) := by decide +kernel
theorem dX4_readNumber_14 : decode cX4_readNumber 14 = .ok (.iload_n 1, 1) := by decide +kernel
theorem dX4_readNumber_15 : decode cX4_readNumber 15 = .ok (.if_icmp .ge 5, 3) := by decide +kernel
theorem dX4_readNumber_18 : decode cX4_readNumber 18 = .ok (.iconst 0, 1) := by decide +kernel
theorem dX4_readNumber_19 : decode cX4_readNumber 19 = .ok (.ireturn, 1) := by decide +kernel
theorem dX4_readNumber_20 : decode cX4_readNumber 20 = .ok (.aload_n 0, 1) := by decide +kernel
theorem dX4_readNumber_21 : decode cX4_readNumber 21 = .ok (.iload_n 3, 1) := by decide +kernel
theorem dX4_readNumber_22 : decode cX4_readNumber 22 = .ok (.putfield 32, 3) := by decide +kernel
theorem dX4_readNumber_25 : decode cX4_readNumber 25 = .ok (.aload_n 0, 1) := by decide +kernel
theorem dX4_readNumber_26 : decode cX4_readNumber 26 = .ok (.dup, 1) := by decide +kernel
theorem dX4_readNumber_27 : decode cX4_readNumber 27 = .ok (.getfield 29, 3) := by decide +kernel
theorem dX4_readNumber_30 : decode cX4_readNumber 30 = .ok (.iconst 1, 1) := by decide +kernel
theorem dX4_readNumber_31 : decode cX4_readNumber 31 = .ok (.iadd, 1) := by decide +kernel
theorem dX4_readNumber_32 : decode cX4_readNumber 32 = .ok (.putfield 29, 3) := by decide +kernel
theorem dX4_readNumber_35 : decode cX4_readNumber 35 = .ok (.iconst 1, 1) := by decide +kernel
theorem dX4_readNumber_36 : decode cX4_readNumber 36 = .ok (.istore 4, 2) := by decide +kernel
theorem dX4_readNumber_38 : decode cX4_readNumber 38 = .ok (.iload 4, 2) := by decide +kernel
theorem dX4_readNumber_40 : decode cX4_readNumber 40 = .ok (.iconst 3, 1) := by decide +kernel
theorem dX4_readNumber_41 : decode cX4_readNumber 41 = .ok (.if_icmp .ge 72, 3) := by decide +kernel
theorem dX4_readNumber_44 : decode cX4_readNumber 44 = .ok (.aload_n 0, 1) := by decide +kernel
theorem dX4_readNumber_45 : decode cX4_readNumber 45 = .ok (.aload_n 0, 1) := by decide +kernel
theorem dX4_readNumber_46 : decode cX4_readNumber 46 = .ok (.getfield 29, 3) := by decide +kernel
theorem dX4_readNumber_49 : decode cX4_readNumber 49 = .ok (.invokevirtual 47, 3) := by decide +kernel
theorem dX4_readNumber_52 : decode cX4_readNumber 52 = .ok (.istore 5, 2) := by decide +kernel
theorem dX4_readNumber_54 : decode cX4_readNumber 54 = .ok (.iload 5, 2) := by decide +kernel
theorem dX4_readNumber_56 : decode cX4_readNumber 56 = .ok (.ifCond .lt 57, 3) := by decide +kernel
theorem dX4_readNumber_59 : decode cX4_readNumber 59 = .ok (.aload_n 0, 1) := by decide +kernel
theorem dX4_readNumber_60 : decode cX4_readNumber 60 = .ok (.getfield 32, 3) := by decide +kernel
theorem dX4_readNumber_63 : decode cX4_readNumber 63 = .ok (.ifCond .eq 50, 3) := by decide +kernel
theorem dX4_readNumber_66 : decode cX4_readNumber 66 = .ok (.bipush 10, 2) := by decide +kernel
theorem dX4_readNumber_68 : decode cX4_readNumber 68 = .ok (.aload_n 0, 1) := by decide +kernel
theorem dX4_readNumber_69 : decode cX4_readNumber 69 = .ok (.getfield 32, 3) := by decide +kernel
theorem dX4_readNumber_72 : decode cX4_readNumber 72 = .ok (.imul, 1) := by decide +kernel
theorem dX4_readNumber_73 : decode cX4_readNumber 73 = .ok (.iload 5, 2) := by decide +kernel
theorem dX4_readNumber_75 : decode cX4_readNumber 75 = .ok (.iadd, 1) := by decide +kernel
theorem dX4_readNumber_76 : decode cX4_readNumber 76 = .ok (.iload_n 2, 1) := by decide +kernel
theorem dX4_readNumber_77 : decode cX4_readNumber 77 = .ok (.if_icmp .le 6, 3) := by decide +kernel
theorem dX4_readNumber_80 : decode cX4_readNumber 80 = .ok (.goto 33, 3) := by decide +kernel
theorem dX4_readNumber_83 : decode cX4_readNumber 83 = .ok (.aload_n 0, 1) := by decide +kernel
theorem dX4_readNumber_84 : decode cX4_readNumber 84 = .ok (.bipush 10, 2) := by decide +kernel
theorem dX4_readNumber_86 : decode cX4_readNumber 86 = .ok (.aload_n 0, 1) := by decide +kernel
theorem dX4_readNumber_87 : decode cX4_readNumber 87 = .ok (.getfield 32, 3) := by decide +kernel
theorem dX4_readNumber_90 : decode cX4_readNumber 90 = .ok (.imul, 1) := by decide +kernel
theorem dX4_readNumber_91 : decode cX4_readNumber 91 = .ok (.iload 5, 2) := by decide +kernel
theorem dX4_readNumber_93 : decode cX4_readNumber 93 = .ok (.iadd, 1) := by decide +kernel
theorem dX4_readNumber_94 : decode cX4_readNumber 94 = .ok (.putfield 32, 3) := by decide +kernel
theorem dX4_readNumber_97 : decode cX4_readNumber 97 = .ok (.aload_n 0, 1) := by decide +kernel
theorem dX4_readNumber_98 : decode cX4_readNumber 98 = .ok (.dup, 1) := by decide +kernel
theorem dX4_readNumber_99 : decode cX4_readNumber 99 = .ok (.getfield 29, 3) := by decide +kernel
theorem dX4_readNumber_102 : decode cX4_readNumber 102 = .ok (.iconst 1, 1) := by decide +kernel
theorem dX4_readNumber_103 : decode cX4_readNumber 103 = .ok (.iadd, 1) := by decide +kernel
theorem dX4_readNumber_104 : decode cX4_readNumber 104 = .ok (.putfield 29, 3) := by decide +kernel
theorem dX4_readNumber_107 : decode cX4_readNumber 107 = .ok (.iinc 4 1, 3) := by decide +kernel
theorem dX4_readNumber_110 : decode cX4_readNumber 110 = .ok (.goto (-72), 3) := by decide +kernel
theorem dX4_readNumber_113 : decode cX4_readNumber 113 = .ok (.iconst 1, 1) := by decide +kernel
theorem dX4_readNumber_114 : decode cX4_readNumber 114 = .ok (.ireturn, 1) := by decide +kernel
theorem dX4_digitAt_0 : decode cX4_digitAt 0 = .ok (.aload_n 0, 1) := by decide +kernel
theorem dX4_digitAt_1 : decode cX4_digitAt 1 = .ok (.iload_n 1, 1) := by decide +kernel
theorem dX4_digitAt_2 : decode cX4_digitAt 2 = .ok (.invokevirtual 39, 3) := by decide +kernel
theorem dX4_digitAt_5 : decode cX4_digitAt 5 = .ok (.istore_n 2, 1) := by decide +kernel
theorem dX4_digitAt_6 : decode cX4_digitAt 6 = .ok (.iload_n 2, 1) := by decide +kernel
theorem dX4_digitAt_7 : decode cX4_digitAt 7 = .ok (.bipush 48, 2) := by decide +kernel
theorem dX4_digitAt_9 : decode cX4_digitAt 9 = .ok (.if_icmp .lt 16, 3) := by decide +kernel
theorem dX4_digitAt_12 : decode cX4_digitAt 12 = .ok (.iload_n 2, 1) := by decide +kernel
theorem dX4_digitAt_13 : decode cX4_digitAt 13 = .ok (.bipush 57, 2) := by decide +kernel
theorem dX4_digitAt_15 : decode cX4_digitAt 15 = .ok (.if_icmp .gt 10, 3) := by decide +kernel
theorem dX4_digitAt_18 : decode cX4_digitAt 18 = .ok (.iload_n 2, 1) := by decide +kernel
theorem dX4_digitAt_19 : decode cX4_digitAt 19 = .ok (.bipush 48, 2) := by decide +kernel
theorem dX4_digitAt_21 : decode cX4_digitAt 21 = .ok (.isub, 1) := by decide +kernel
theorem dX4_digitAt_22 : decode cX4_digitAt 22 = .ok (.goto 4, 3) := by decide +kernel
theorem dX4_digitAt_25 : decode cX4_digitAt 25 = .ok (.iconst (-1), 1) := by decide +kernel
theorem dX4_digitAt_26 : decode cX4_digitAt 26 = .ok (.ireturn, 1) := by decide +kernel
theorem dX4_characterAt_0 : decode cX4_characterAt 0 = .ok (.iload_n 1, 1) := by decide +kernel
theorem dX4_characterAt_1 : decode cX4_characterAt 1 = .ok (.ifCond .lt 21, 3) := by decide +kernel
theorem dX4_characterAt_4 : decode cX4_characterAt 4 = .ok (.iload_n 1, 1) := by decide +kernel
theorem dX4_characterAt_5 : decode cX4_characterAt 5 = .ok (.aload_n 0, 1) := by decide +kernel
theorem dX4_characterAt_6 : decode cX4_characterAt 6 = .ok (.getfield 15, 3) := by decide +kernel
theorem dX4_characterAt_9 : decode cX4_characterAt 9 = .ok (.if_icmp .ge 13, 3) := by decide +kernel
theorem dX4_characterAt_12 : decode cX4_characterAt 12 = .ok (.iload_n 1, 1) := by decide +kernel
theorem dX4_characterAt_13 : decode cX4_characterAt 13 = .ok (.bipush 60, 2) := by decide +kernel
theorem dX4_characterAt_15 : decode cX4_characterAt 15 = .ok (.if_icmp .ge 7, 3) := by decide +kernel
theorem dX4_characterAt_18 : decode cX4_characterAt 18 = .ok (.iconst 1, 1) := by decide +kernel
theorem dX4_characterAt_19 : decode cX4_characterAt 19 = .ok (.goto 4, 3) := by decide +kernel
theorem dX4_characterAt_22 : decode cX4_characterAt 22 = .ok (.iconst 0, 1) := by decide +kernel
theorem dX4_characterAt_23 : decode cX4_characterAt 23 = .ok (.istore_n 2, 1) := by decide +kernel
theorem dX4_characterAt_24 : decode cX4_characterAt 24 = .ok (.iload_n 2, 1) := by decide +kernel
theorem dX4_characterAt_25 : decode cX4_characterAt 25 = .ok (.ifCond .eq 12, 3) := by decide +kernel
theorem dX4_characterAt_28 : decode cX4_characterAt 28 = .ok (.aload_n 0, 1) := by decide +kernel
theorem dX4_characterAt_29 : decode cX4_characterAt 29 = .ok (.getfield 9, 3) := by decide +kernel
theorem dX4_characterAt_32 : decode cX4_characterAt 32 = .ok (.iload_n 1, 1) := by decide +kernel
theorem dX4_characterAt_33 : decode cX4_characterAt 33 = .ok (.caload, 1) := by decide +kernel
theorem dX4_characterAt_34 : decode cX4_characterAt 34 = .ok (.goto 4, 3) := by decide +kernel
theorem dX4_characterAt_37 : decode cX4_characterAt 37 = .ok (.iconst 0, 1) := by decide +kernel
theorem dX4_characterAt_38 : decode cX4_characterAt 38 = .ok (.ireturn, 1) := by decide +kernel
theorem dX5_init_0 : decode cX5_init 0 = .ok (.aload_n 0, 1) := by decide +kernel
theorem dX5_init_1 : decode cX5_init 1 = .ok (.invokespecial 3, 3) := by decide +kernel
theorem dX5_init_4 : decode cX5_init 4 = .ok (.aload_n 0, 1) := by decide +kernel
theorem dX5_init_5 : decode cX5_init 5 = .ok (.sipush 200, 3) := by decide +kernel
theorem dX5_init_8 : decode cX5_init 8 = .ok (.newarray .int, 2) := by decide +kernel
theorem dX5_init_10 : decode cX5_init 10 = .ok (.putfield 9, 3) := by decide +kernel
theorem dX5_init_13 : decode cX5_init 13 = .ok (.aload_n 0, 1) := by decide +kernel
theorem dX5_init_14 : decode cX5_init 14 = .ok (.iconst 0, 1) := by decide +kernel
theorem dX5_init_15 : decode cX5_init 15 = .ok (.putfield 15, 3) := by decide +kernel
theorem dX5_init_18 : decode cX5_init 18 = .ok (.return_, 1) := by decide +kernel
theorem dX5_copyFrom_0 : decode cX5_copyFrom 0 = .ok (.aload_n 1, 1) := by decide +kernel
theorem dX5_copyFrom_1 : decode cX5_copyFrom 1 = .ok (.ifnonnull 4, 3) := by decide +kernel
theorem dX5_copyFrom_4 : decode cX5_copyFrom 4 = .ok (.return_, 1) := by decide +kernel
theorem dX5_copyFrom_5 : decode cX5_copyFrom 5 = .ok (.aload_n 1, 1) := by decide +kernel
theorem dX5_copyFrom_6 : decode cX5_copyFrom 6 = .ok (.getfield 9, 3) := by decide +kernel
theorem dX5_copyFrom_9 : decode cX5_copyFrom 9 = .ok (.iconst 0, 1) := by decide +kernel
theorem dX5_copyFrom_10 : decode cX5_copyFrom 10 = .ok (.aload_n 0, 1) := by decide +kernel
theorem dX5_copyFrom_11 : decode cX5_copyFrom 11 = .ok (.getfield 9, 3) := by decide +kernel
theorem dX5_copyFrom_14 : decode cX5_copyFrom 14 = .ok (.iconst 0, 1) := by decide +kernel
theorem dX5_copyFrom_15 : decode cX5_copyFrom 15 = .ok (.sipush 200, 3) := by decide +kernel
theorem dX5_copyFrom_18 : decode cX5_copyFrom 18 = .ok (.invokestatic 19, 3) := by decide +kernel
theorem dX5_copyFrom_21 : decode cX5_copyFrom 21 = .ok (.aload_n 0, 1) := by decide +kernel
theorem dX5_copyFrom_22 : decode cX5_copyFrom 22 = .ok (.aload_n 1, 1) := by decide +kernel
theorem dX5_copyFrom_23 : decode cX5_copyFrom 23 = .ok (.getfield 15, 3) := by decide +kernel
theorem dX5_copyFrom_26 : decode cX5_copyFrom 26 = .ok (.putfield 15, 3) := by decide +kernel
theorem dX5_copyFrom_29 : decode cX5_copyFrom 29 = .ok (.return_, 1) := by decide +kernel
theorem dX5_names_0 : decode cX5_names 0 = .ok (.aload_n 0, 1) := by decide +kernel
theorem dX5_names_1 : decode cX5_names 1 = .ok (.getfield 15, 3) := by decide +kernel
theorem dX5_names_4 : decode cX5_names 4 = .ok (.ireturn, 1) := by decide +kernel
theorem dX5_nameAt_0 : decode cX5_nameAt 0 = .ok (.iload_n 1, 1) := by decide +kernel
theorem dX5_nameAt_1 : decode cX5_nameAt 1 = .ok (.ifCond .lt 27, 3) := by decide +kernel
theorem dX5_nameAt_4 : decode cX5_nameAt 4 = .ok (.iload_n 1, 1) := by decide +kernel
theorem dX5_nameAt_5 : decode cX5_nameAt 5 = .ok (.aload_n 0, 1) := by decide +kernel
theorem dX5_nameAt_6 : decode cX5_nameAt 6 = .ok (.getfield 15, 3) := by decide +kernel
theorem dX5_nameAt_9 : decode cX5_nameAt 9 = .ok (.if_icmp .ge 19, 3) := by decide +kernel
theorem dX5_nameAt_12 : decode cX5_nameAt 12 = .ok (.iload_n 1, 1) := by decide +kernel
theorem dX5_nameAt_13 : decode cX5_nameAt 13 = .ok (.sipush 200, 3) := by decide +kernel
theorem dX5_nameAt_16 : decode cX5_nameAt 16 = .ok (.if_icmp .ge 12, 3) := by decide +kernel
theorem dX5_nameAt_19 : decode cX5_nameAt 19 = .ok (.aload_n 0, 1) := by decide +kernel
theorem dX5_nameAt_20 : decode cX5_nameAt 20 = .ok (.getfield 9, 3) := by decide +kernel
theorem dX5_nameAt_23 : decode cX5_nameAt 23 = .ok (.iload_n 1, 1) := by decide +kernel
theorem dX5_nameAt_24 : decode cX5_nameAt 24 = .ok (.iaload, 1) := by decide +kernel
theorem dX5_nameAt_25 : decode cX5_nameAt 25 = .ok (.goto 5, 3) := by decide +kernel
theorem dX5_nameAt_28 : decode cX5_nameAt 28 = .ok (.bipush (-5), 2) := by decide +kernel
theorem dX5_nameAt_30 : decode cX5_nameAt 30 = .ok (.ireturn, 1) := by decide +kernel
theorem dX5_add_0 : decode cX5_add 0 = .ok (.aload_n 0, 1) := by decide +kernel
theorem dX5_add_1 : decode cX5_add 1 = .ok (.getfield 15, 3) := by decide +kernel
theorem dX5_add_4 : decode cX5_add 4 = .ok (.sipush 200, 3) := by decide +kernel
theorem dX5_add_7 : decode cX5_add 7 = .ok (.if_icmp .lt 26, 3) := by decide +kernel
theorem dX5_add_10 : decode cX5_add 10 = .ok (.aload_n 0, 1) := by decide +kernel
theorem dX5_add_11 : decode cX5_add 11 = .ok (.getfield 9, 3) := by decide +kernel
theorem dX5_add_14 : decode cX5_add 14 = .ok (.iconst 1, 1) := by decide +kernel
theorem dX5_add_15 : decode cX5_add 15 = .ok (.aload_n 0, 1) := by decide +kernel
theorem dX5_add_16 : decode cX5_add 16 = .ok (.getfield 9, 3) := by decide +kernel
theorem dX5_add_19 : decode cX5_add 19 = .ok (.iconst 0, 1) := by decide +kernel
theorem dX5_add_20 : decode cX5_add 20 = .ok (.sipush 199, 3) := by decide +kernel
theorem dX5_add_23 : decode cX5_add 23 = .ok (.invokestatic 19, 3) := by decide +kernel
theorem dX5_add_26 : decode cX5_add 26 = .ok (.aload_n 0, 1) := by decide +kernel
theorem dX5_add_27 : decode cX5_add 27 = .ok (.sipush 199, 3) := by decide +kernel
theorem dX5_add_30 : decode cX5_add 30 = .ok (.putfield 15, 3) := by decide +kernel
theorem dX5_add_33 : decode cX5_add 33 = .ok (.aload_n 0, 1) := by decide +kernel
theorem dX5_add_34 : decode cX5_add 34 = .ok (.getfield 15, 3) := by decide +kernel
theorem dX5_add_37 : decode cX5_add 37 = .ok (.ifCond .lt 23, 3) := by decide +kernel
theorem dX5_add_40 : decode cX5_add 40 = .ok (.aload_n 0, 1) := by decide +kernel
theorem dX5_add_41 : decode cX5_add 41 = .ok (.getfield 9, 3) := by decide +kernel
theorem dX5_add_44 : decode cX5_add 44 = .ok (.aload_n 0, 1) := by decide +kernel
theorem dX5_add_45 : decode cX5_add 45 = .ok (.getfield 15, 3) := by decide +kernel
theorem dX5_add_48 : decode cX5_add 48 = .ok (.iload_n 1, 1) := by decide +kernel
theorem dX5_add_49 : decode cX5_add 49 = .ok (.iastore, 1) := by decide +kernel
theorem dX5_add_50 : decode cX5_add 50 = .ok (.aload_n 0, 1) := by decide +kernel
theorem dX5_add_51 : decode cX5_add 51 = .ok (.dup, 1) := by decide +kernel
theorem dX5_add_52 : decode cX5_add 52 = .ok (.getfield 15, 3) := by decide +kernel
theorem dX5_add_55 : decode cX5_add 55 = .ok (.iconst 1, 1) := by decide +kernel
theorem dX5_add_56 : decode cX5_add 56 = .ok (.iadd, 1) := by decide +kernel
theorem dX5_add_57 : decode cX5_add 57 = .ok (.putfield 15, 3) := by decide +kernel
theorem dX5_add_60 : decode cX5_add 60 = .ok (.return_, 1) := by decide +kernel
theorem dX5_empty_0 : decode cX5_empty 0 = .ok (.aload_n 0, 1) := by decide +kernel
theorem dX5_empty_1 : decode cX5_empty 1 = .ok (.iconst 0, 1) := by decide +kernel
theorem dX5_empty_2 : decode cX5_empty 2 = .ok (.putfield 15, 3) := by decide +kernel
theorem dX5_empty_5 : decode cX5_empty 5 = .ok (.return_, 1) := by decide +kernel
theorem dX6_init_0 : decode cX6_init 0 = .ok (.aload_n 0, 1) := by decide +kernel
theorem dX6_init_1 : decode cX6_init 1 = .ok (.invokespecial 1, 3) := by decide +kernel
theorem dX6_init_4 : decode cX6_init 4 = .ok (.aload_n 0, 1) := by decide +kernel
theorem dX6_init_5 : decode cX6_init 5 = .ok (.new 7, 3) := by decide +kernel
theorem dX6_init_8 : decode cX6_init 8 = .ok (.dup, 1) := by decide +kernel
theorem dX6_init_9 : decode cX6_init 9 = .ok (.invokespecial 9, 3) := by decide +kernel
theorem dX6_init_12 : decode cX6_init 12 = .ok (.putfield 10, 3) := by decide +kernel
theorem dX6_init_15 : decode cX6_init 15 = .ok (.aload_n 0, 1) := by decide +kernel
theorem dX6_init_16 : decode cX6_init 16 = .ok (.new 7, 3) := by decide +kernel
theorem dX6_init_19 : decode cX6_init 19 = .ok (.dup, 1) := by decide +kernel
theorem dX6_init_20 : decode cX6_init 20 = .ok (.invokespecial 9, 3) := by decide +kernel
theorem dX6_init_23 : decode cX6_init 23 = .ok (.putfield 16, 3) := by decide +kernel
theorem dX6_init_26 : decode cX6_init 26 = .ok (.aload_n 0, 1) := by decide +kernel
theorem dX6_init_27 : decode cX6_init 27 = .ok (.new 7, 3) := by decide +kernel
theorem dX6_init_30 : decode cX6_init 30 = .ok (.dup, 1) := by decide +kernel
theorem dX6_init_31 : decode cX6_init 31 = .ok (.invokespecial 9, 3) := by decide +kernel
theorem dX6_init_34 : decode cX6_init 34 = .ok (.putfield 19, 3) := by decide +kernel
theorem dX6_init_37 : decode cX6_init 37 = .ok (.aload_n 0, 1) := by decide +kernel
theorem dX6_init_38 : decode cX6_init 38 = .ok (.new 7, 3) := by decide +kernel
theorem dX6_init_41 : decode cX6_init 41 = .ok (.dup, 1) := by decide +kernel
theorem dX6_init_42 : decode cX6_init 42 = .ok (.invokespecial 9, 3) := by decide +kernel
theorem dX6_init_45 : decode cX6_init 45 = .ok (.putfield 22, 3) := by decide +kernel
theorem dX6_init_48 : decode cX6_init 48 = .ok (.aload_n 0, 1) := by decide +kernel
theorem dX6_init_49 : decode cX6_init 49 = .ok (.iconst 0, 1) := by decide +kernel
theorem dX6_init_50 : decode cX6_init 50 = .ok (.putfield 25, 3) := by decide +kernel
theorem dX6_init_53 : decode cX6_init 53 = .ok (.aload_n 0, 1) := by decide +kernel
theorem dX6_init_54 : decode cX6_init 54 = .ok (.new 29, 3) := by decide +kernel
theorem dX6_init_57 : decode cX6_init 57 = .ok (.dup, 1) := by decide +kernel
theorem dX6_init_58 : decode cX6_init 58 = .ok (.invokespecial 31, 3) := by decide +kernel
theorem dX6_init_61 : decode cX6_init 61 = .ok (.putfield 32, 3) := by decide +kernel
theorem dX6_init_64 : decode cX6_init 64 = .ok (.aload_n 0, 1) := by decide +kernel
theorem dX6_init_65 : decode cX6_init 65 = .ok (.new 36, 3) := by decide +kernel
theorem dX6_init_68 : decode cX6_init 68 = .ok (.dup, 1) := by decide +kernel
theorem dX6_init_69 : decode cX6_init 69 = .ok (.invokespecial 38, 3) := by decide +kernel
theorem dX6_init_72 : decode cX6_init 72 = .ok (.putfield 39, 3) := by decide +kernel
theorem dX6_init_75 : decode cX6_init 75 = .ok (.return_, 1) := by decide +kernel
theorem dX6_put_0 : decode cX6_put 0 = .ok (.aload_n 0, 1) := by decide +kernel
theorem dX6_put_1 : decode cX6_put 1 = .ok (.getfield 16, 3) := by decide +kernel
theorem dX6_put_4 : decode cX6_put 4 = .ok (.aload_n 0, 1) := by decide +kernel
theorem dX6_put_5 : decode cX6_put 5 = .ok (.getfield 10, 3) := by decide +kernel
theorem dX6_put_8 : decode cX6_put 8 = .ok (.invokevirtual 43, 3) := by decide +kernel
theorem dX6_put_11 : decode cX6_put 11 = .ok (.aload_n 0, 1) := by decide +kernel
theorem dX6_put_12 : decode cX6_put 12 = .ok (.aload_n 0, 1) := by decide +kernel
theorem dX6_put_13 : decode cX6_put 13 = .ok (.getfield 10, 3) := by decide +kernel
theorem dX6_put_16 : decode cX6_put 16 = .ok (.iload_n 1, 1) := by decide +kernel
theorem dX6_put_17 : decode cX6_put 17 = .ok (.invokevirtual 47, 3) := by decide +kernel
theorem dX6_put_20 : decode cX6_put 20 = .ok (.invokevirtual 51, 3) := by decide +kernel
theorem dX6_put_23 : decode cX6_put 23 = .ok (.ireturn, 1) := by decide +kernel
theorem dX6_take_0 : decode cX6_take 0 = .ok (.aload_n 0, 1) := by decide +kernel
theorem dX6_take_1 : decode cX6_take 1 = .ok (.getfield 16, 3) := by decide +kernel
theorem dX6_take_4 : decode cX6_take 4 = .ok (.aload_n 0, 1) := by decide +kernel
theorem dX6_take_5 : decode cX6_take 5 = .ok (.getfield 10, 3) := by decide +kernel
theorem dX6_take_8 : decode cX6_take 8 = .ok (.invokevirtual 43, 3) := by decide +kernel
theorem dX6_take_11 : decode cX6_take 11 = .ok (.aload_n 0, 1) := by decide +kernel
theorem dX6_take_12 : decode cX6_take 12 = .ok (.aload_n 0, 1) := by decide +kernel
theorem dX6_take_13 : decode cX6_take 13 = .ok (.getfield 10, 3) := by decide +kernel
theorem dX6_take_16 : decode cX6_take 16 = .ok (.iload_n 1, 1) := by decide +kernel
theorem dX6_take_17 : decode cX6_take 17 = .ok (.invokevirtual 54, 3) := by decide +kernel
theorem dX6_take_20 : decode cX6_take 20 = .ok (.invokevirtual 51, 3) := by decide +kernel
theorem dX6_take_23 : decode cX6_take 23 = .ok (.ireturn, 1) := by decide +kernel
theorem dX6_sleep_0 : decode cX6_sleep 0 = .ok (.aload_n 0, 1) := by decide +kernel
theorem dX6_sleep_1 : decode cX6_sleep 1 = .ok (.getfield 16, 3) := by decide +kernel
theorem dX6_sleep_4 : decode cX6_sleep 4 = .ok (.aload_n 0, 1) := by decide +kernel
theorem dX6_sleep_5 : decode cX6_sleep 5 = .ok (.getfield 10, 3) := by decide +kernel
theorem dX6_sleep_8 : decode cX6_sleep 8 = .ok (.invokevirtual 43, 3) := by decide +kernel
theorem dX6_sleep_11 : decode cX6_sleep 11 = .ok (.aload_n 0, 1) := by decide +kernel
theorem dX6_sleep_12 : decode cX6_sleep 12 = .ok (.aload_n 0, 1) := by decide +kernel
theorem dX6_sleep_13 : decode cX6_sleep 13 = .ok (.getfield 10, 3) := by decide +kernel
theorem dX6_sleep_16 : decode cX6_sleep 16 = .ok (.iload_n 1, 1) := by decide +kernel
theorem dX6_sleep_17 : decode cX6_sleep 17 = .ok (.invokevirtual 57, 3) := by decide +kernel
theorem dX6_sleep_20 : decode cX6_sleep 20 = .ok (.invokevirtual 51, 3) := by decide +kernel
theorem dX6_sleep_23 : decode cX6_sleep 23 = .ok (.ireturn, 1) := by decide +kernel
theorem dX6_wakeAll_0 : decode cX6_wakeAll 0 = .ok (.aload_n 0, 1) := by decide +kernel
theorem dX6_wakeAll_1 : decode cX6_wakeAll 1 = .ok (.getfield 16, 3) := by decide +kernel
theorem dX6_wakeAll_4 : decode cX6_wakeAll 4 = .ok (.aload_n 0, 1) := by decide +kernel
theorem dX6_wakeAll_5 : decode cX6_wakeAll 5 = .ok (.getfield 10, 3) := by decide +kernel
theorem dX6_wakeAll_8 : decode cX6_wakeAll 8 = .ok (.invokevirtual 43, 3) := by decide +kernel
theorem dX6_wakeAll_11 : decode cX6_wakeAll 11 = .ok (.aload_n 0, 1) := by decide +kernel
theorem dX6_wakeAll_12 : decode cX6_wakeAll 12 = .ok (.aload_n 0, 1) := by decide +kernel
theorem dX6_wakeAll_13 : decode cX6_wakeAll 13 = .ok (.getfield 10, 3) := by decide +kernel
theorem dX6_wakeAll_16 : decode cX6_wakeAll 16 = .ok (.invokevirtual 60, 3) := by decide +kernel
theorem dX6_wakeAll_19 : decode cX6_wakeAll 19 = .ok (.invokevirtual 51, 3) := by decide +kernel
theorem dX6_wakeAll_22 : decode cX6_wakeAll 22 = .ok (.ireturn, 1) := by decide +kernel
theorem dX6_leave_0 : decode cX6_leave 0 = .ok (.aload_n 0, 1) := by decide +kernel
theorem dX6_leave_1 : decode cX6_leave 1 = .ok (.getfield 16, 3) := by decide +kernel
theorem dX6_leave_4 : decode cX6_leave 4 = .ok (.aload_n 0, 1) := by decide +kernel
theorem dX6_leave_5 : decode cX6_leave 5 = .ok (.getfield 10, 3) := by decide +kernel
theorem dX6_leave_8 : decode cX6_leave 8 = .ok (.invokevirtual 43, 3) := by decide +kernel
theorem dX6_leave_11 : decode cX6_leave 11 = .ok (.aload_n 0, 1) := by decide +kernel
theorem dX6_leave_12 : decode cX6_leave 12 = .ok (.aload_n 0, 1) := by decide +kernel
theorem dX6_leave_13 : decode cX6_leave 13 = .ok (.getfield 10, 3) := by decide +kernel
theorem dX6_leave_16 : decode cX6_leave 16 = .ok (.iload_n 1, 1) := by decide +kernel
theorem dX6_leave_17 : decode cX6_leave 17 = .ok (.iload_n 2, 1) := by decide +kernel
theorem dX6_leave_18 : decode cX6_leave 18 = .ok (.invokevirtual 64, 3) := by decide +kernel
theorem dX6_leave_21 : decode cX6_leave 21 = .ok (.invokevirtual 51, 3) := by decide +kernel
theorem dX6_leave_24 : decode cX6_leave 24 = .ok (.ireturn, 1) := by decide +kernel
theorem dX6_set_0 : decode cX6_set 0 = .ok (.aload_n 0, 1) := by decide +kernel
theorem dX6_set_1 : decode cX6_set 1 = .ok (.getfield 16, 3) := by decide +kernel
theorem dX6_set_4 : decode cX6_set 4 = .ok (.aload_n 0, 1) := by decide +kernel
theorem dX6_set_5 : decode cX6_set 5 = .ok (.getfield 10, 3) := by decide +kernel
theorem dX6_set_8 : decode cX6_set 8 = .ok (.invokevirtual 43, 3) := by decide +kernel
theorem dX6_set_11 : decode cX6_set 11 = .ok (.aload_n 0, 1) := by decide +kernel
theorem dX6_set_12 : decode cX6_set 12 = .ok (.aload_n 0, 1) := by decide +kernel
theorem dX6_set_13 : decode cX6_set 13 = .ok (.getfield 10, 3) := by decide +kernel
theorem dX6_set_16 : decode cX6_set 16 = .ok (.iload_n 1, 1) := by decide +kernel
theorem dX6_set_17 : decode cX6_set 17 = .ok (.iload_n 2, 1) := by decide +kernel
theorem dX6_set_18 : decode cX6_set 18 = .ok (.invokevirtual 68, 3) := by decide +kernel
theorem dX6_set_21 : decode cX6_set 21 = .ok (.invokevirtual 51, 3) := by decide +kernel
theorem dX6_set_24 : decode cX6_set 24 = .ok (.ireturn, 1) := by decide +kernel
theorem dX6_shuffle_0 : decode cX6_shuffle 0 = .ok (.aload_n 0, 1) := by decide +kernel
theorem dX6_shuffle_1 : decode cX6_shuffle 1 = .ok (.getfield 16, 3) := by decide +kernel
theorem dX6_shuffle_4 : decode cX6_shuffle 4 = .ok (.aload_n 0, 1) := by decide +kernel
theorem dX6_shuffle_5 : decode cX6_shuffle 5 = .ok (.getfield 10, 3) := by decide +kernel
theorem dX6_shuffle_8 : decode cX6_shuffle 8 = .ok (.invokevirtual 43, 3) := by decide +kernel
theorem dX6_shuffle_11 : decode cX6_shuffle 11 = .ok (.aload_n 0, 1) := by decide +kernel
theorem dX6_shuffle_12 : decode cX6_shuffle 12 = .ok (.aload_n 0, 1) := by decide +kernel
theorem dX6_shuffle_13 : decode cX6_shuffle 13 = .ok (.getfield 10, 3) := by decide +kernel
theorem dX6_shuffle_16 : decode cX6_shuffle 16 = .ok (.iload_n 1, 1) := by decide +kernel
theorem dX6_shuffle_17 : decode cX6_shuffle 17 = .ok (.invokevirtual 71, 3) := by decide +kernel
theorem dX6_shuffle_20 : decode cX6_shuffle 20 = .ok (.invokevirtual 51, 3) := by decide +kernel
theorem dX6_shuffle_23 : decode cX6_shuffle 23 = .ok (.ireturn, 1) := by decide +kernel
theorem dX6_forget_0 : decode cX6_forget 0 = .ok (.aload_n 0, 1) := by decide +kernel
theorem dX6_forget_1 : decode cX6_forget 1 = .ok (.getfield 16, 3) := by decide +kernel
theorem dX6_forget_4 : decode cX6_forget 4 = .ok (.aload_n 0, 1) := by decide +kernel
theorem dX6_forget_5 : decode cX6_forget 5 = .ok (.getfield 10, 3) := by decide +kernel
theorem dX6_forget_8 : decode cX6_forget 8 = .ok (.invokevirtual 43, 3) := by decide +kernel
theorem dX6_forget_11 : decode cX6_forget 11 = .ok (.aload_n 0, 1) := by decide +kernel
theorem dX6_forget_12 : decode cX6_forget 12 = .ok (.aload_n 0, 1) := by decide +kernel
theorem dX6_forget_13 : decode cX6_forget 13 = .ok (.getfield 10, 3) := by decide +kernel
theorem dX6_forget_16 : decode cX6_forget 16 = .ok (.invokevirtual 74, 3) := by decide +kernel
theorem dX6_forget_19 : decode cX6_forget 19 = .ok (.invokevirtual 51, 3) := by decide +kernel
theorem dX6_forget_22 : decode cX6_forget 22 = .ok (.ireturn, 1) := by decide +kernel
theorem dX6_ask_0 : decode cX6_ask 0 = .ok (.iload_n 1, 1) := by decide +kernel
theorem dX6_ask_1 : decode cX6_ask 1 = .ok (.iload_n 2, 1) := by decide +kernel
theorem dX6_ask_2 : decode cX6_ask 2 = .ok (.invokestatic 77, 3) := by decide +kernel
theorem dX6_ask_5 : decode cX6_ask 5 = .ok (.ifCond .ne 6, 3) := by decide +kernel
theorem dX6_ask_8 : decode cX6_ask 8 = .ok (.bipush (-2), 2) := by decide +kernel
theorem dX6_ask_10 : decode cX6_ask 10 = .ok (.ireturn, 1) := by decide +kernel
theorem dX6_ask_11 : decode cX6_ask 11 = .ok (.aload_n 0, 1) := by decide +kernel
theorem dX6_ask_12 : decode cX6_ask 12 = .ok (.getfield 16, 3) := by decide +kernel
theorem dX6_ask_15 : decode cX6_ask 15 = .ok (.aload_n 0, 1) := by decide +kernel
theorem dX6_ask_16 : decode cX6_ask 16 = .ok (.getfield 10, 3) := by decide +kernel
theorem dX6_ask_19 : decode cX6_ask 19 = .ok (.invokevirtual 43, 3) := by decide +kernel
theorem dX6_ask_22 : decode cX6_ask 22 = .ok (.aload_n 0, 1) := by decide +kernel
theorem dX6_ask_23 : decode cX6_ask 23 = .ok (.aload_n 0, 1) := by decide +kernel
theorem dX6_ask_24 : decode cX6_ask 24 = .ok (.getfield 10, 3) := by decide +kernel
theorem dX6_ask_27 : decode cX6_ask 27 = .ok (.iload_n 1, 1) := by decide +kernel
theorem dX6_ask_28 : decode cX6_ask 28 = .ok (.iload_n 2, 1) := by decide +kernel
theorem dX6_ask_29 : decode cX6_ask 29 = .ok (.invokevirtual 81, 3) := by decide +kernel
theorem dX6_ask_32 : decode cX6_ask 32 = .ok (.invokevirtual 51, 3) := by decide +kernel
theorem dX6_ask_35 : decode cX6_ask 35 = .ok (.ireturn, 1) := by decide +kernel
theorem dX6_walk_0 : decode cX6_walk 0 = .ok (.aload_n 0, 1) := by decide +kernel
theorem dX6_walk_1 : decode cX6_walk 1 = .ok (.getfield 16, 3) := by decide +kernel
theorem dX6_walk_4 : decode cX6_walk 4 = .ok (.aload_n 0, 1) := by decide +kernel
theorem dX6_walk_5 : decode cX6_walk 5 = .ok (.getfield 10, 3) := by decide +kernel
theorem dX6_walk_8 : decode cX6_walk 8 = .ok (.invokevirtual 43, 3) := by decide +kernel
theorem dX6_walk_11 : decode cX6_walk 11 = .ok (.aload_n 0, 1) := by decide +kernel
theorem dX6_walk_12 : decode cX6_walk 12 = .ok (.aload_n 0, 1) := by decide +kernel
theorem dX6_walk_13 : decode cX6_walk 13 = .ok (.getfield 10, 3) := by decide +kernel
theorem dX6_walk_16 : decode cX6_walk 16 = .ok (.iload_n 1, 1) := by decide +kernel
theorem dX6_walk_17 : decode cX6_walk 17 = .ok (.invokevirtual 84, 3) := by decide +kernel
theorem dX6_walk_20 : decode cX6_walk 20 = .ok (.invokevirtual 51, 3) := by decide +kernel
theorem dX6_walk_23 : decode cX6_walk 23 = .ok (.ireturn, 1) := by decide +kernel
theorem dX6_frame_0 : decode cX6_frame 0 = .ok (.aload_n 0, 1) := by decide +kernel
theorem dX6_frame_1 : decode cX6_frame 1 = .ok (.getfield 16, 3) := by decide +kernel
theorem dX6_frame_4 : decode cX6_frame 4 = .ok (.aload_n 0, 1) := by decide +kernel
theorem dX6_frame_5 : decode cX6_frame 5 = .ok (.getfield 10, 3) := by decide +kernel
theorem dX6_frame_8 : decode cX6_frame 8 = .ok (.invokevirtual 43, 3) := by decide +kernel
theorem dX6_frame_11 : decode cX6_frame 11 = .ok (.aload_n 0, 1) := by decide +kernel
theorem dX6_frame_12 : decode cX6_frame 12 = .ok (.aload_n 0, 1) := by decide +kernel
theorem dX6_frame_13 : decode cX6_frame 13 = .ok (.getfield 10, 3) := by decide +kernel
theorem dX6_frame_16 : decode cX6_frame 16 = .ok (.iload_n 1, 1) := by decide +kernel
theorem dX6_frame_17 : decode cX6_frame 17 = .ok (.invokevirtual 88, 3) := by decide +kernel
theorem dX6_frame_20 : decode cX6_frame 20 = .ok (.invokevirtual 51, 3) := by decide +kernel
theorem dX6_frame_23 : decode cX6_frame 23 = .ok (.ireturn, 1) := by decide +kernel
theorem dX6_rounds_0 : decode cX6_rounds 0 = .ok (.aload_n 0, 1) := by decide +kernel
theorem dX6_rounds_1 : decode cX6_rounds 1 = .ok (.getfield 16, 3) := by decide +kernel
theorem dX6_rounds_4 : decode cX6_rounds 4 = .ok (.aload_n 0, 1) := by decide +kernel
theorem dX6_rounds_5 : decode cX6_rounds 5 = .ok (.getfield 10, 3) := by decide +kernel
theorem dX6_rounds_8 : decode cX6_rounds 8 = .ok (.invokevirtual 43, 3) := by decide +kernel
theorem dX6_rounds_11 : decode cX6_rounds 11 = .ok (.aload_n 0, 1) := by decide +kernel
theorem dX6_rounds_12 : decode cX6_rounds 12 = .ok (.aload_n 0, 1) := by decide +kernel
theorem dX6_rounds_13 : decode cX6_rounds 13 = .ok (.getfield 10, 3) := by decide +kernel
theorem dX6_rounds_16 : decode cX6_rounds 16 = .ok (.iload_n 1, 1) := by decide +kernel
theorem dX6_rounds_17 : decode cX6_rounds 17 = .ok (.invokevirtual 91, 3) := by decide +kernel
theorem dX6_rounds_20 : decode cX6_rounds 20 = .ok (.invokevirtual 51, 3) := by decide +kernel
theorem dX6_rounds_23 : decode cX6_rounds 23 = .ok (.ireturn, 1) := by decide +kernel
theorem dX6_type_0 : decode cX6_type 0 = .ok (.aload_n 0, 1) := by decide +kernel
theorem dX6_type_1 : decode cX6_type 1 = .ok (.getfield 39, 3) := by decide +kernel
theorem dX6_type_4 : decode cX6_type 4 = .ok (.iload_n 1, 1) := by decide +kernel
theorem dX6_type_5 : decode cX6_type 5 = .ok (.invokevirtual 94, 3) := by decide +kernel
theorem dX6_type_8 : decode cX6_type 8 = .ok (.ireturn, 1) := by decide +kernel
theorem dX6_clearText_0 : decode cX6_clearText 0 = .ok (.aload_n 0, 1) := by decide +kernel
theorem dX6_clearText_1 : decode cX6_clearText 1 = .ok (.getfield 39, 3) := by decide +kernel
theorem dX6_clearText_4 : decode cX6_clearText 4 = .ok (.invokevirtual 98, 3) := by decide +kernel
theorem dX6_clearText_7 : decode cX6_clearText 7 = .ok (.ireturn, 1) := by decide +kernel
theorem dX6_perform_0 : decode cX6_perform 0 = .ok (.aload_n 0, 1) := by decide +kernel
theorem dX6_perform_1 : decode cX6_perform 1 = .ok (.getfield 39, 3) := by decide +kernel
theorem dX6_perform_4 : decode cX6_perform 4 = .ok (.invokevirtual 101, 3) := by decide +kernel
theorem dX6_perform_7 : decode cX6_perform 7 = .ok (.istore_n 1, 1) := by decide +kernel
theorem dX6_perform_8 : decode cX6_perform 8 = .ok (.iload_n 1, 1) := by decide +kernel
theorem dX6_perform_9 : decode cX6_perform 9 = .ok (.iconst (-1), 1) := by decide +kernel
theorem dX6_perform_10 : decode cX6_perform 10 = .ok (.if_icmp .eq 8, 3) := by decide +kernel
theorem dX6_perform_13 : decode cX6_perform 13 = .ok (.bipush (-100), 2) := by decide +kernel
theorem dX6_perform_15 : decode cX6_perform 15 = .ok (.iload_n 1, 1) := by decide +kernel
theorem dX6_perform_16 : decode cX6_perform 16 = .ok (.isub, 1) := by decide +kernel
theorem dX6_perform_17 : decode cX6_perform 17 = .ok (.ireturn, 1) := by decide +kernel
theorem dX6_perform_18 : decode cX6_perform 18 = .ok (.aload_n 0, 1) := by decide +kernel
theorem dX6_perform_19 : decode cX6_perform 19 = .ok (.getfield 16, 3) := by decide +kernel
theorem dX6_perform_22 : decode cX6_perform 22 = .ok (.aload_n 0, 1) := by decide +kernel
theorem dX6_perform_23 : decode cX6_perform 23 = .ok (.getfield 10, 3) := by decide +kernel
theorem dX6_perform_26 : decode cX6_perform 26 = .ok (.invokevirtual 43, 3) := by decide +kernel
theorem dX6_perform_29 : decode cX6_perform 29 = .ok (.aload_n 0, 1) := by decide +kernel
theorem dX6_perform_30 : decode cX6_perform 30 = .ok (.getfield 39, 3) := by decide +kernel
theorem dX6_perform_33 : decode cX6_perform 33 = .ok (.invokevirtual 104, 3) := by decide +kernel
theorem dX6_perform_36 : decode cX6_perform 36 = .ok (.istore_n 2, 1) := by decide +kernel
theorem dX6_perform_37 : decode cX6_perform 37 = .ok (.iconst 0, 1) := by decide +kernel
theorem dX6_perform_38 : decode cX6_perform 38 = .ok (.istore_n 3, 1) := by decide +kernel
theorem dX6_perform_39 : decode cX6_perform 39 = .ok (.iload_n 3, 1) := by decide +kernel
theorem dX6_perform_40 : decode cX6_perform 40 = .ok (.iload_n 2, 1) := by decide +kernel
theorem dX6_perform_41 : decode cX6_perform 41 = .ok (.if_icmp .ge 60, 3) := by decide +kernel
theorem dX6_perform_44 : decode cX6_perform 44 = .ok (.aload_n 0, 1) := by decide +kernel
theorem dX6_perform_45 : decode cX6_perform 45 = .ok (.getfield 10, 3) := by decide +kernel
theorem dX6_perform_48 : decode cX6_perform 48 = .ok (.aload_n 0, 1) := by decide +kernel
theorem dX6_perform_49 : decode cX6_perform 49 = .ok (.getfield 39, 3) := by decide +kernel
theorem dX6_perform_52 : decode cX6_perform 52 = .ok (.iload_n 3, 1) := by decide +kernel
theorem dX6_perform_53 : decode cX6_perform 53 = .ok (.invokevirtual 107, 3) := by decide +kernel
theorem dX6_perform_56 : decode cX6_perform 56 = .ok (.aload_n 0, 1) := by decide +kernel
theorem dX6_perform_57 : decode cX6_perform 57 = .ok (.getfield 39, 3) := by decide +kernel
theorem dX6_perform_60 : decode cX6_perform 60 = .ok (.iload_n 3, 1) := by decide +kernel
theorem dX6_perform_61 : decode cX6_perform 61 = .ok (.invokevirtual 111, 3) := by decide +kernel
theorem dX6_perform_64 : decode cX6_perform 64 = .ok (.invokevirtual 114, 3) := by decide +kernel
theorem dX6_perform_67 : decode cX6_perform 67 = .ok (.istore 4, 2) := by decide +kernel
theorem dX6_perform_69 : decode cX6_perform 69 = .ok (.iload 4, 2) := by decide +kernel
theorem dX6_perform_71 : decode cX6_perform 71 = .ok (.ifCond .ge 24, 3) := by decide +kernel
theorem dX6_perform_74 : decode cX6_perform 74 = .ok (.iload 4, 2) := by decide +kernel
theorem dX6_perform_76 : decode cX6_perform 76 = .ok (.bipush (-5), 2) := by decide +kernel
theorem dX6_perform_78 : decode cX6_perform 78 = .ok (.if_icmp .eq 17, 3) := by decide +kernel
theorem dX6_perform_81 : decode cX6_perform 81 = .ok (.aload_n 0, 1) := by decide +kernel
theorem dX6_perform_82 : decode cX6_perform 82 = .ok (.getfield 10, 3) := by decide +kernel
theorem dX6_perform_85 : decode cX6_perform 85 = .ok (.aload_n 0, 1) := by decide +kernel
theorem dX6_perform_86 : decode cX6_perform 86 = .ok (.getfield 16, 3) := by decide +kernel
theorem dX6_perform_89 : decode cX6_perform 89 = .ok (.invokevirtual 43, 3) := by decide +kernel
theorem dX6_perform_92 : decode cX6_perform 92 = .ok (.iload 4, 2) := by decide +kernel
theorem dX6_perform_94 : decode cX6_perform 94 = .ok (.ireturn, 1) := by decide +kernel
theorem dX6_perform_95 : decode cX6_perform 95 = .ok (.iinc 3 1, 3) := by decide +kernel
theorem dX6_perform_98 : decode cX6_perform 98 = .ok (.goto (-59), 3) := by decide +kernel
theorem dX6_perform_101 : decode cX6_perform 101 = .ok (.aload_n 0, 1) := by decide +kernel
theorem dX6_perform_102 : decode cX6_perform 102 = .ok (.iload_n 2, 1) := by decide +kernel
theorem dX6_perform_103 : decode cX6_perform 103 = .ok (.invokevirtual 51, 3) := by decide +kernel
theorem dX6_perform_106 : decode cX6_perform 106 = .ok (.ireturn, 1) := by decide +kernel
theorem dX6_undo_0 : decode cX6_undo 0 = .ok (.aload_n 0, 1) := by decide +kernel
theorem dX6_undo_1 : decode cX6_undo 1 = .ok (.getfield 32, 3) := by decide +kernel
theorem dX6_undo_4 : decode cX6_undo 4 = .ok (.aload_n 0, 1) := by decide +kernel
theorem dX6_undo_5 : decode cX6_undo 5 = .ok (.getfield 10, 3) := by decide +kernel
theorem dX6_undo_8 : decode cX6_undo 8 = .ok (.invokevirtual 118, 3) := by decide +kernel
theorem dX6_undo_11 : decode cX6_undo 11 = .ok (.ireturn, 1) := by decide +kernel
theorem dX6_keep_0 : decode cX6_keep 0 = .ok (.aload_n 0, 1) := by decide +kernel
theorem dX6_keep_1 : decode cX6_keep 1 = .ok (.getfield 22, 3) := by decide +kernel
theorem dX6_keep_4 : decode cX6_keep 4 = .ok (.aload_n 0, 1) := by decide +kernel
theorem dX6_keep_5 : decode cX6_keep 5 = .ok (.getfield 10, 3) := by decide +kernel
theorem dX6_keep_8 : decode cX6_keep 8 = .ok (.invokevirtual 43, 3) := by decide +kernel
theorem dX6_keep_11 : decode cX6_keep 11 = .ok (.aload_n 0, 1) := by decide +kernel
theorem dX6_keep_12 : decode cX6_keep 12 = .ok (.iconst 1, 1) := by decide +kernel
theorem dX6_keep_13 : decode cX6_keep 13 = .ok (.putfield 25, 3) := by decide +kernel
theorem dX6_keep_16 : decode cX6_keep 16 = .ok (.aload_n 0, 1) := by decide +kernel
theorem dX6_keep_17 : decode cX6_keep 17 = .ok (.getfield 10, 3) := by decide +kernel
theorem dX6_keep_20 : decode cX6_keep 20 = .ok (.getfield 122, 3) := by decide +kernel
theorem dX6_keep_23 : decode cX6_keep 23 = .ok (.invokevirtual 126, 3) := by decide +kernel
theorem dX6_keep_26 : decode cX6_keep 26 = .ok (.ireturn, 1) := by decide +kernel
theorem dX6_restore_0 : decode cX6_restore 0 = .ok (.aload_n 0, 1) := by decide +kernel
theorem dX6_restore_1 : decode cX6_restore 1 = .ok (.getfield 25, 3) := by decide +kernel
theorem dX6_restore_4 : decode cX6_restore 4 = .ok (.ifCond .ne 6, 3) := by decide +kernel
theorem dX6_restore_7 : decode cX6_restore 7 = .ok (.bipush (-5), 2) := by decide +kernel
theorem dX6_restore_9 : decode cX6_restore 9 = .ok (.ireturn, 1) := by decide +kernel
theorem dX6_restore_10 : decode cX6_restore 10 = .ok (.aload_n 0, 1) := by decide +kernel
theorem dX6_restore_11 : decode cX6_restore 11 = .ok (.getfield 16, 3) := by decide +kernel
theorem dX6_restore_14 : decode cX6_restore 14 = .ok (.aload_n 0, 1) := by decide +kernel
theorem dX6_restore_15 : decode cX6_restore 15 = .ok (.getfield 10, 3) := by decide +kernel
theorem dX6_restore_18 : decode cX6_restore 18 = .ok (.invokevirtual 43, 3) := by decide +kernel
theorem dX6_restore_21 : decode cX6_restore 21 = .ok (.aload_n 0, 1) := by decide +kernel
theorem dX6_restore_22 : decode cX6_restore 22 = .ok (.getfield 10, 3) := by decide +kernel
theorem dX6_restore_25 : decode cX6_restore 25 = .ok (.aload_n 0, 1) := by decide +kernel
theorem dX6_restore_26 : decode cX6_restore 26 = .ok (.getfield 22, 3) := by decide +kernel
theorem dX6_restore_29 : decode cX6_restore 29 = .ok (.invokevirtual 43, 3) := by decide +kernel
theorem dX6_restore_32 : decode cX6_restore 32 = .ok (.aload_n 0, 1) := by decide +kernel
theorem dX6_restore_33 : decode cX6_restore 33 = .ok (.aload_n 0, 1) := by decide +kernel
theorem dX6_restore_34 : decode cX6_restore 34 = .ok (.getfield 10, 3) := by decide +kernel
theorem dX6_restore_37 : decode cX6_restore 37 = .ok (.getfield 122, 3) := by decide +kernel
theorem dX6_restore_40 : decode cX6_restore 40 = .ok (.invokevirtual 126, 3) := by decide +kernel
theorem dX6_restore_43 : decode cX6_restore 43 = .ok (.invokevirtual 51, 3) := by decide +kernel
theorem dX6_restore_46 : decode cX6_restore 46 = .ok (.ireturn, 1) := by decide +kernel
theorem dX6_card_0 : decode cX6_card 0 = .ok (.iload_n 1, 1) := by decide +kernel
theorem dX6_card_1 : decode cX6_card 1 = .ok (.ifCond .ge 6, 3) := by decide +kernel
theorem dX6_card_4 : decode cX6_card 4 = .ok (.bipush (-2), 2) := by decide +kernel
theorem dX6_card_6 : decode cX6_card 6 = .ok (.ireturn, 1) := by decide +kernel
theorem dX6_card_7 : decode cX6_card 7 = .ok (.iload_n 1, 1) := by decide +kernel
theorem dX6_card_8 : decode cX6_card 8 = .ok (.aload_n 0, 1) := by decide +kernel
theorem dX6_card_9 : decode cX6_card 9 = .ok (.getfield 10, 3) := by decide +kernel
theorem dX6_card_12 : decode cX6_card 12 = .ok (.getfield 122, 3) := by decide +kernel
theorem dX6_card_15 : decode cX6_card 15 = .ok (.invokevirtual 126, 3) := by decide +kernel
theorem dX6_card_18 : decode cX6_card 18 = .ok (.if_icmp .ge 17, 3) := by decide +kernel
theorem dX6_card_21 : decode cX6_card 21 = .ok (.aload_n 0, 1) := by decide +kernel
theorem dX6_card_22 : decode cX6_card 22 = .ok (.getfield 10, 3) := by decide +kernel
theorem dX6_card_25 : decode cX6_card 25 = .ok (.getfield 122, 3) := by decide +kernel
theorem dX6_card_28 : decode cX6_card 28 = .ok (.iload_n 1, 1) := by decide +kernel
theorem dX6_card_29 : decode cX6_card 29 = .ok (.invokevirtual 131, 3) := by decide +kernel
theorem dX6_card_32 : decode cX6_card 32 = .ok (.goto 5, 3) := by decide +kernel
theorem dX6_card_35 : decode cX6_card 35 = .ok (.bipush (-5), 2) := by decide +kernel
theorem dX6_card_37 : decode cX6_card 37 = .ok (.ireturn, 1) := by decide +kernel
theorem dX6_ofCard_0 : decode cX6_ofCard 0 = .ok (.aload_n 0, 1) := by decide +kernel
theorem dX6_ofCard_1 : decode cX6_ofCard 1 = .ok (.getfield 10, 3) := by decide +kernel
theorem dX6_ofCard_4 : decode cX6_ofCard 4 = .ok (.getfield 122, 3) := by decide +kernel
theorem dX6_ofCard_7 : decode cX6_ofCard 7 = .ok (.astore_n 3, 1) := by decide +kernel
theorem dX6_ofCard_8 : decode cX6_ofCard 8 = .ok (.aload_n 3, 1) := by decide +kernel
theorem dX6_ofCard_9 : decode cX6_ofCard 9 = .ok (.iload_n 1, 1) := by decide +kernel
theorem dX6_ofCard_10 : decode cX6_ofCard 10 = .ok (.invokevirtual 134, 3) := by decide +kernel
theorem dX6_ofCard_13 : decode cX6_ofCard 13 = .ok (.istore 4, 2) := by decide +kernel
theorem dX6_ofCard_15 : decode cX6_ofCard 15 = .ok (.iload 4, 2) := by decide +kernel
theorem dX6_ofCard_17 : decode cX6_ofCard 17 = .ok (.iconst (-1), 1) := by decide +kernel
theorem dX6_ofCard_18 : decode cX6_ofCard 18 = .ok (.if_icmp .ne 5, 3) := by decide +kernel
theorem dX6_ofCard_21 : decode cX6_ofCard 21 = .ok (.iconst (-1), 1) := by decide +kernel
theorem dX6_ofCard_22 : decode cX6_ofCard 22 = .ok (.ireturn, 1) := by decide +kernel
theorem dX6_ofCard_23 : decode cX6_ofCard 23 = .ok (.iload_n 2, 1) := by decide +kernel
theorem dX6_ofCard_24 : decode cX6_ofCard 24 = .ok (.tableswitch 68 0 3 #[32, 47, 54, 61], 32) := by decide +kernel
theorem dX6_ofCard_56 : decode cX6_ofCard 56 = .ok (.aload_n 3, 1) := by decide +kernel
theorem dX6_ofCard_57 : decode cX6_ofCard 57 = .ok (.iload 4, 2) := by decide +kernel
theorem dX6_ofCard_59 : decode cX6_ofCard 59 = .ok (.invokevirtual 137, 3) := by decide +kernel
theorem dX6_ofCard_62 : decode cX6_ofCard 62 = .ok (.ifCond .eq 7, 3) := by decide +kernel
theorem dX6_ofCard_65 : decode cX6_ofCard 65 = .ok (.iconst 1, 1) := by decide +kernel
theorem dX6_ofCard_66 : decode cX6_ofCard 66 = .ok (.goto 4, 3) := by decide +kernel
theorem dX6_ofCard_69 : decode cX6_ofCard 69 = .ok (.iconst 0, 1) := by decide +kernel
theorem dX6_ofCard_70 : decode cX6_ofCard 70 = .ok (.ireturn, 1) := by decide +kernel
theorem dX6_ofCard_71 : decode cX6_ofCard 71 = .ok (.aload_n 3, 1) := by decide +kernel
theorem dX6_ofCard_72 : decode cX6_ofCard 72 = .ok (.iload 4, 2) := by decide +kernel
theorem dX6_ofCard_74 : decode cX6_ofCard 74 = .ok (.invokevirtual 141, 3) := by decide +kernel
theorem dX6_ofCard_77 : decode cX6_ofCard 77 = .ok (.ireturn, 1) := by decide +kernel
theorem dX6_ofCard_78 : decode cX6_ofCard 78 = .ok (.aload_n 3, 1) := by decide +kernel
theorem dX6_ofCard_79 : decode cX6_ofCard 79 = .ok (.iload 4, 2) := by decide +kernel
theorem dX6_ofCard_81 : decode cX6_ofCard 81 = .ok (.invokevirtual 144, 3) := by decide +kernel
theorem dX6_ofCard_84 : decode cX6_ofCard 84 = .ok (.ireturn, 1) := by decide +kernel
theorem dX6_ofCard_85 : decode cX6_ofCard 85 = .ok (.aload_n 3, 1) := by decide +kernel
theorem dX6_ofCard_86 : decode cX6_ofCard 86 = .ok (.iload 4, 2) := by decide +kernel
theorem dX6_ofCard_88 : decode cX6_ofCard 88 = .ok (.invokevirtual 147, 3) := by decide +kernel
theorem dX6_ofCard_91 : decode cX6_ofCard 91 = .ok (.ireturn, 1) := by decide +kernel
theorem dX6_ofCard_92 : decode cX6_ofCard 92 = .ok (.bipush (-2), 2) := by decide +kernel
theorem dX6_ofCard_94 : decode cX6_ofCard 94 = .ok (.ireturn, 1) := by decide +kernel
theorem dX6_told_0 : decode cX6_told 0 = .ok (.iload_n 1, 1) := by decide +kernel
theorem dX6_told_1 : decode cX6_told 1 = .ok (.ifCond .ge 6, 3) := by decide +kernel
theorem dX6_told_4 : decode cX6_told 4 = .ok (.bipush (-2), 2) := by decide +kernel
theorem dX6_told_6 : decode cX6_told 6 = .ok (.ireturn, 1) := by decide +kernel
theorem dX6_told_7 : decode cX6_told 7 = .ok (.iload_n 1, 1) := by decide +kernel
theorem dX6_told_8 : decode cX6_told 8 = .ok (.aload_n 0, 1) := by decide +kernel
theorem dX6_told_9 : decode cX6_told 9 = .ok (.getfield 10, 3) := by decide +kernel
theorem dX6_told_12 : decode cX6_told 12 = .ok (.getfield 150, 3) := by decide +kernel
theorem dX6_told_15 : decode cX6_told 15 = .ok (.invokevirtual 154, 3) := by decide +kernel
theorem dX6_told_18 : decode cX6_told 18 = .ok (.if_icmp .ge 17, 3) := by decide +kernel
theorem dX6_told_21 : decode cX6_told 21 = .ok (.aload_n 0, 1) := by decide +kernel
theorem dX6_told_22 : decode cX6_told 22 = .ok (.getfield 10, 3) := by decide +kernel
theorem dX6_told_25 : decode cX6_told 25 = .ok (.getfield 150, 3) := by decide +kernel
theorem dX6_told_28 : decode cX6_told 28 = .ok (.iload_n 1, 1) := by decide +kernel
theorem dX6_told_29 : decode cX6_told 29 = .ok (.invokevirtual 159, 3) := by decide +kernel
theorem dX6_told_32 : decode cX6_told 32 = .ok (.goto 5, 3) := by decide +kernel
theorem dX6_told_35 : decode cX6_told 35 = .ok (.bipush (-5), 2) := by decide +kernel
theorem dX6_told_37 : decode cX6_told 37 = .ok (.ireturn, 1) := by decide +kernel
theorem dX6_total_0 : decode cX6_total 0 = .ok (.iload_n 1, 1) := by decide +kernel
theorem dX6_total_1 : decode cX6_total 1 = .ok (.tableswitch 169 0 16 #[83, 94, 105, 116, 169, 169, 169, 169, 169, 169, 169, 127, 136, 145, 169, 153, 161], 83) := by decide +kernel
theorem dX6_total_84 : decode cX6_total 84 = .ok (.aload_n 0, 1) := by decide +kernel
theorem dX6_total_85 : decode cX6_total 85 = .ok (.getfield 10, 3) := by decide +kernel
theorem dX6_total_88 : decode cX6_total 88 = .ok (.getfield 122, 3) := by decide +kernel
theorem dX6_total_91 : decode cX6_total 91 = .ok (.invokevirtual 126, 3) := by decide +kernel
theorem dX6_total_94 : decode cX6_total 94 = .ok (.ireturn, 1) := by decide +kernel
theorem dX6_total_95 : decode cX6_total 95 = .ok (.aload_n 0, 1) := by decide +kernel
theorem dX6_total_96 : decode cX6_total 96 = .ok (.getfield 10, 3) := by decide +kernel
theorem dX6_total_99 : decode cX6_total 99 = .ok (.getfield 122, 3) := by decide +kernel
theorem dX6_total_102 : decode cX6_total 102 = .ok (.invokevirtual 160, 3) := by decide +kernel
theorem dX6_total_105 : decode cX6_total 105 = .ok (.ireturn, 1) := by decide +kernel
theorem dX6_total_106 : decode cX6_total 106 = .ok (.aload_n 0, 1) := by decide +kernel
theorem dX6_total_107 : decode cX6_total 107 = .ok (.getfield 10, 3) := by decide +kernel
theorem dX6_total_110 : decode cX6_total 110 = .ok (.getfield 122, 3) := by decide +kernel
theorem dX6_total_113 : decode cX6_total 113 = .ok (.invokevirtual 163, 3) := by decide +kernel
theorem dX6_total_116 : decode cX6_total 116 = .ok (.ireturn, 1) := by decide +kernel
theorem dX6_total_117 : decode cX6_total 117 = .ok (.aload_n 0, 1) := by decide +kernel
theorem dX6_total_118 : decode cX6_total 118 = .ok (.getfield 10, 3) := by decide +kernel
theorem dX6_total_121 : decode cX6_total 121 = .ok (.getfield 150, 3) := by decide +kernel
theorem dX6_total_124 : decode cX6_total 124 = .ok (.invokevirtual 154, 3) := by decide +kernel
theorem dX6_total_127 : decode cX6_total 127 = .ok (.ireturn, 1) := by decide +kernel
theorem dX6_total_128 : decode cX6_total 128 = .ok (.aload_n 0, 1) := by decide +kernel
theorem dX6_total_129 : decode cX6_total 129 = .ok (.getfield 10, 3) := by decide +kernel
theorem dX6_total_132 : decode cX6_total 132 = .ok (.iconst 0, 1) := by decide +kernel
theorem dX6_total_133 : decode cX6_total 133 = .ok (.invokevirtual 166, 3) := by decide +kernel
theorem dX6_total_136 : decode cX6_total 136 = .ok (.ireturn, 1) := by decide +kernel
theorem dX6_total_137 : decode cX6_total 137 = .ok (.aload_n 0, 1) := by decide +kernel
theorem dX6_total_138 : decode cX6_total 138 = .ok (.getfield 10, 3) := by decide +kernel
theorem dX6_total_141 : decode cX6_total 141 = .ok (.iconst 1, 1) := by decide +kernel
theorem dX6_total_142 : decode cX6_total 142 = .ok (.invokevirtual 166, 3) := by decide +kernel
theorem dX6_total_145 : decode cX6_total 145 = .ok (.ireturn, 1) := by decide +kernel
theorem dX6_total_146 : decode cX6_total 146 = .ok (.aload_n 0, 1) := by decide +kernel
theorem dX6_total_147 : decode cX6_total 147 = .ok (.getfield 10, 3) := by decide +kernel
theorem dX6_total_150 : decode cX6_total 150 = .ok (.getfield 169, 3) := by decide +kernel
theorem dX6_total_153 : decode cX6_total 153 = .ok (.ireturn, 1) := by decide +kernel
theorem dX6_total_154 : decode cX6_total 154 = .ok (.aload_n 0, 1) := by decide +kernel
theorem dX6_total_155 : decode cX6_total 155 = .ok (.getfield 32, 3) := by decide +kernel
theorem dX6_total_158 : decode cX6_total 158 = .ok (.invokevirtual 173, 3) := by decide +kernel
theorem dX6_total_161 : decode cX6_total 161 = .ok (.ireturn, 1) := by decide +kernel
theorem dX6_total_162 : decode cX6_total 162 = .ok (.aload_n 0, 1) := by decide +kernel
theorem dX6_total_163 : decode cX6_total 163 = .ok (.getfield 39, 3) := by decide +kernel
theorem dX6_total_166 : decode cX6_total 166 = .ok (.invokevirtual 176, 3) := by decide +kernel
theorem dX6_total_169 : decode cX6_total 169 = .ok (.ireturn, 1) := by decide +kernel
theorem dX6_total_170 : decode cX6_total 170 = .ok (.aload_n 0, 1) := by decide +kernel
theorem dX6_total_171 : decode cX6_total 171 = .ok (.getfield 10, 3) := by decide +kernel
theorem dX6_total_174 : decode cX6_total 174 = .ok (.getfield 179, 3) := by decide +kernel
theorem dX6_total_177 : decode cX6_total 177 = .ok (.iload_n 1, 1) := by decide +kernel
theorem dX6_total_178 : decode cX6_total 178 = .ok (.invokevirtual 183, 3) := by decide +kernel
theorem dX6_total_181 : decode cX6_total 181 = .ok (.ireturn, 1) := by decide +kernel
theorem dX6_count_0 : decode cX6_count 0 = .ok (.iload_n 1, 1) := by decide +kernel
theorem dX6_count_1 : decode cX6_count 1 = .ok (.iload_n 2, 1) := by decide +kernel
theorem dX6_count_2 : decode cX6_count 2 = .ok (.invokestatic 77, 3) := by decide +kernel
theorem dX6_count_5 : decode cX6_count 5 = .ok (.ifCond .eq 18, 3) := by decide +kernel
theorem dX6_count_8 : decode cX6_count 8 = .ok (.aload_n 0, 1) := by decide +kernel
theorem dX6_count_9 : decode cX6_count 9 = .ok (.getfield 10, 3) := by decide +kernel
theorem dX6_count_12 : decode cX6_count 12 = .ok (.getfield 122, 3) := by decide +kernel
theorem dX6_count_15 : decode cX6_count 15 = .ok (.iload_n 1, 1) := by decide +kernel
theorem dX6_count_16 : decode cX6_count 16 = .ok (.iload_n 2, 1) := by decide +kernel
theorem dX6_count_17 : decode cX6_count 17 = .ok (.invokevirtual 188, 3) := by decide +kernel
theorem dX6_count_20 : decode cX6_count 20 = .ok (.goto 5, 3) := by decide +kernel
theorem dX6_count_23 : decode cX6_count 23 = .ok (.bipush (-2), 2) := by decide +kernel
theorem dX6_count_25 : decode cX6_count 25 = .ok (.ireturn, 1) := by decide +kernel
theorem dX6_walkTakes_0 : decode cX6_walkTakes 0 = .ok (.iload_n 2, 1) := by decide +kernel
theorem dX6_walkTakes_1 : decode cX6_walkTakes 1 = .ok (.ifCond .lt 8, 3) := by decide +kernel
theorem dX6_walkTakes_4 : decode cX6_walkTakes 4 = .ok (.iload_n 2, 1) := by decide +kernel
theorem dX6_walkTakes_5 : decode cX6_walkTakes 5 = .ok (.iconst 4, 1) := by decide +kernel
theorem dX6_walkTakes_6 : decode cX6_walkTakes 6 = .ok (.if_icmp .le 6, 3) := by decide +kernel
theorem dX6_walkTakes_9 : decode cX6_walkTakes 9 = .ok (.bipush (-2), 2) := by decide +kernel
theorem dX6_walkTakes_11 : decode cX6_walkTakes 11 = .ok (.ireturn, 1) := by decide +kernel
theorem dX6_walkTakes_12 : decode cX6_walkTakes 12 = .ok (.aload_n 0, 1) := by decide +kernel
theorem dX6_walkTakes_13 : decode cX6_walkTakes 13 = .ok (.getfield 19, 3) := by decide +kernel
theorem dX6_walkTakes_16 : decode cX6_walkTakes 16 = .ok (.aload_n 0, 1) := by decide +kernel
theorem dX6_walkTakes_17 : decode cX6_walkTakes 17 = .ok (.getfield 10, 3) := by decide +kernel
theorem dX6_walkTakes_20 : decode cX6_walkTakes 20 = .ok (.invokevirtual 43, 3) := by decide +kernel
theorem dX6_walkTakes_23 : decode cX6_walkTakes 23 = .ok (.aload_n 0, 1) := by decide +kernel
theorem dX6_walkTakes_24 : decode cX6_walkTakes 24 = .ok (.getfield 19, 3) := by decide +kernel
theorem dX6_walkTakes_27 : decode cX6_walkTakes 27 = .ok (.iload_n 1, 1) := by decide +kernel
theorem dX6_walkTakes_28 : decode cX6_walkTakes 28 = .ok (.invokevirtual 84, 3) := by decide +kernel
theorem dX6_walkTakes_31 : decode cX6_walkTakes 31 = .ok (.istore_n 3, 1) := by decide +kernel
theorem dX6_walkTakes_32 : decode cX6_walkTakes 32 = .ok (.iload_n 2, 1) := by decide +kernel
theorem dX6_walkTakes_33 : decode cX6_walkTakes 33 = .ok (.tableswitch 99 0 3 #[31, 53, 75, 77], 31) := by decide +kernel
theorem dX6_walkTakes_64 : decode cX6_walkTakes 64 = .ok (.aload_n 0, 1) := by decide +kernel
theorem dX6_walkTakes_65 : decode cX6_walkTakes 65 = .ok (.getfield 19, 3) := by decide +kernel
theorem dX6_walkTakes_68 : decode cX6_walkTakes 68 = .ok (.getfield 179, 3) := by decide +kernel
theorem dX6_walkTakes_71 : decode cX6_walkTakes 71 = .ok (.getfield 191, 3) := by decide +kernel
theorem dX6_walkTakes_74 : decode cX6_walkTakes 74 = .ok (.aload_n 0, 1) := by decide +kernel
theorem dX6_walkTakes_75 : decode cX6_walkTakes 75 = .ok (.getfield 10, 3) := by decide +kernel
theorem dX6_walkTakes_78 : decode cX6_walkTakes 78 = .ok (.getfield 179, 3) := by decide +kernel
theorem dX6_walkTakes_81 : decode cX6_walkTakes 81 = .ok (.getfield 191, 3) := by decide +kernel
theorem dX6_walkTakes_84 : decode cX6_walkTakes 84 = .ok (.isub, 1) := by decide +kernel
theorem dX6_walkTakes_85 : decode cX6_walkTakes 85 = .ok (.ireturn, 1) := by decide +kernel
theorem dX6_walkTakes_86 : decode cX6_walkTakes 86 = .ok (.aload_n 0, 1) := by decide +kernel
theorem dX6_walkTakes_87 : decode cX6_walkTakes 87 = .ok (.getfield 19, 3) := by decide +kernel
theorem dX6_walkTakes_90 : decode cX6_walkTakes 90 = .ok (.getfield 179, 3) := by decide +kernel
theorem dX6_walkTakes_93 : decode cX6_walkTakes 93 = .ok (.getfield 194, 3) := by decide +kernel
theorem dX6_walkTakes_96 : decode cX6_walkTakes 96 = .ok (.aload_n 0, 1) := by decide +kernel
theorem dX6_walkTakes_97 : decode cX6_walkTakes 97 = .ok (.getfield 10, 3) := by decide +kernel
theorem dX6_walkTakes_100 : decode cX6_walkTakes 100 = .ok (.getfield 179, 3) := by decide +kernel
theorem dX6_walkTakes_103 : decode cX6_walkTakes 103 = .ok (.getfield 194, 3) := by decide +kernel
theorem dX6_walkTakes_106 : decode cX6_walkTakes 106 = .ok (.isub, 1) := by decide +kernel
theorem dX6_walkTakes_107 : decode cX6_walkTakes 107 = .ok (.ireturn, 1) := by decide +kernel
theorem dX6_walkTakes_108 : decode cX6_walkTakes 108 = .ok (.iload_n 3, 1) := by decide +kernel
theorem dX6_walkTakes_109 : decode cX6_walkTakes 109 = .ok (.ireturn, 1) := by decide +kernel
theorem dX6_walkTakes_110 : decode cX6_walkTakes 110 = .ok (.aload_n 0, 1) := by decide +kernel
theorem dX6_walkTakes_111 : decode cX6_walkTakes 111 = .ok (.getfield 19, 3) := by decide +kernel
theorem dX6_walkTakes_114 : decode cX6_walkTakes 114 = .ok (.getfield 179, 3) := by decide +kernel
theorem dX6_walkTakes_117 : decode cX6_walkTakes 117 = .ok (.getfield 197, 3) := by decide +kernel
theorem dX6_walkTakes_120 : decode cX6_walkTakes 120 = .ok (.aload_n 0, 1) := by decide +kernel
theorem dX6_walkTakes_121 : decode cX6_walkTakes 121 = .ok (.getfield 10, 3) := by decide +kernel
theorem dX6_walkTakes_124 : decode cX6_walkTakes 124 = .ok (.getfield 179, 3) := by decide +kernel
theorem dX6_walkTakes_127 : decode cX6_walkTakes 127 = .ok (.getfield 197, 3) := by decide +kernel
theorem dX6_walkTakes_130 : decode cX6_walkTakes 130 = .ok (.isub, 1) := by decide +kernel
theorem dX6_walkTakes_131 : decode cX6_walkTakes 131 = .ok (.ireturn, 1) := by decide +kernel
theorem dX6_walkTakes_132 : decode cX6_walkTakes 132 = .ok (.aload_n 0, 1) := by decide +kernel
theorem dX6_walkTakes_133 : decode cX6_walkTakes 133 = .ok (.getfield 19, 3) := by decide +kernel
theorem dX6_walkTakes_136 : decode cX6_walkTakes 136 = .ok (.getfield 200, 3) := by decide +kernel
theorem dX6_walkTakes_139 : decode cX6_walkTakes 139 = .ok (.ireturn, 1) := by decide +kernel
theorem dX6_roundsTake_0 : decode cX6_roundsTake 0 = .ok (.iload_n 1, 1) := by decide +kernel
theorem dX6_roundsTake_1 : decode cX6_roundsTake 1 = .ok (.invokestatic 203, 3) := by decide +kernel
theorem dX6_roundsTake_4 : decode cX6_roundsTake 4 = .ok (.ifCond .eq 12, 3) := by decide +kernel
theorem dX6_roundsTake_7 : decode cX6_roundsTake 7 = .ok (.iload_n 2, 1) := by decide +kernel
theorem dX6_roundsTake_8 : decode cX6_roundsTake 8 = .ok (.ifCond .lt 8, 3) := by decide +kernel
theorem dX6_roundsTake_11 : decode cX6_roundsTake 11 = .ok (.iload_n 2, 1) := by decide +kernel
theorem dX6_roundsTake_12 : decode cX6_roundsTake 12 = .ok (.iconst 4, 1) := by decide +kernel
theorem dX6_roundsTake_13 : decode cX6_roundsTake 13 = .ok (.if_icmp .le 6, 3) := by decide +kernel
theorem dX6_roundsTake_16 : decode cX6_roundsTake 16 = .ok (.bipush (-2), 2) := by decide +kernel
theorem dX6_roundsTake_18 : decode cX6_roundsTake 18 = .ok (.ireturn, 1) := by decide +kernel
theorem dX6_roundsTake_19 : decode cX6_roundsTake 19 = .ok (.aload_n 0, 1) := by decide +kernel
theorem dX6_roundsTake_20 : decode cX6_roundsTake 20 = .ok (.getfield 19, 3) := by decide +kernel
theorem dX6_roundsTake_23 : decode cX6_roundsTake 23 = .ok (.aload_n 0, 1) := by decide +kernel
theorem dX6_roundsTake_24 : decode cX6_roundsTake 24 = .ok (.getfield 10, 3) := by decide +kernel
theorem dX6_roundsTake_27 : decode cX6_roundsTake 27 = .ok (.invokevirtual 43, 3) := by decide +kernel
theorem dX6_roundsTake_30 : decode cX6_roundsTake 30 = .ok (.aload_n 0, 1) := by decide +kernel
theorem dX6_roundsTake_31 : decode cX6_roundsTake 31 = .ok (.getfield 19, 3) := by decide +kernel
theorem dX6_roundsTake_34 : decode cX6_roundsTake 34 = .ok (.iload_n 1, 1) := by decide +kernel
theorem dX6_roundsTake_35 : decode cX6_roundsTake 35 = .ok (.invokevirtual 91, 3) := by decide +kernel
theorem dX6_roundsTake_38 : decode cX6_roundsTake 38 = .ok (.istore_n 3, 1) := by decide +kernel
theorem dX6_roundsTake_39 : decode cX6_roundsTake 39 = .ok (.iload_n 2, 1) := by decide +kernel
theorem dX6_roundsTake_40 : decode cX6_roundsTake 40 = .ok (.tableswitch 100 0 3 #[32, 34, 56, 78], 32) := by decide +kernel
theorem dX6_roundsTake_72 : decode cX6_roundsTake 72 = .ok (.iload_n 3, 1) := by decide +kernel
theorem dX6_roundsTake_73 : decode cX6_roundsTake 73 = .ok (.ireturn, 1) := by decide +kernel
theorem dX6_roundsTake_74 : decode cX6_roundsTake 74 = .ok (.aload_n 0, 1) := by decide +kernel
theorem dX6_roundsTake_75 : decode cX6_roundsTake 75 = .ok (.getfield 19, 3) := by decide +kernel
theorem dX6_roundsTake_78 : decode cX6_roundsTake 78 = .ok (.getfield 179, 3) := by decide +kernel
theorem dX6_roundsTake_81 : decode cX6_roundsTake 81 = .ok (.getfield 194, 3) := by decide +kernel
theorem dX6_roundsTake_84 : decode cX6_roundsTake 84 = .ok (.aload_n 0, 1) := by decide +kernel
theorem dX6_roundsTake_85 : decode cX6_roundsTake 85 = .ok (.getfield 10, 3) := by decide +kernel
theorem dX6_roundsTake_88 : decode cX6_roundsTake 88 = .ok (.getfield 179, 3) := by decide +kernel
theorem dX6_roundsTake_91 : decode cX6_roundsTake 91 = .ok (.getfield 194, 3) := by decide +kernel
theorem dX6_roundsTake_94 : decode cX6_roundsTake 94 = .ok (.isub, 1) := by decide +kernel
theorem dX6_roundsTake_95 : decode cX6_roundsTake 95 = .ok (.ireturn, 1) := by decide +kernel
theorem dX6_roundsTake_96 : decode cX6_roundsTake 96 = .ok (.aload_n 0, 1) := by decide +kernel
theorem dX6_roundsTake_97 : decode cX6_roundsTake 97 = .ok (.getfield 19, 3) := by decide +kernel
theorem dX6_roundsTake_100 : decode cX6_roundsTake 100 = .ok (.getfield 179, 3) := by decide +kernel
theorem dX6_roundsTake_103 : decode cX6_roundsTake 103 = .ok (.getfield 206, 3) := by decide +kernel
theorem dX6_roundsTake_106 : decode cX6_roundsTake 106 = .ok (.aload_n 0, 1) := by decide +kernel
theorem dX6_roundsTake_107 : decode cX6_roundsTake 107 = .ok (.getfield 10, 3) := by decide +kernel
theorem dX6_roundsTake_110 : decode cX6_roundsTake 110 = .ok (.getfield 179, 3) := by decide +kernel
theorem dX6_roundsTake_113 : decode cX6_roundsTake 113 = .ok (.getfield 206, 3) := by decide +kernel
theorem dX6_roundsTake_116 : decode cX6_roundsTake 116 = .ok (.isub, 1) := by decide +kernel
theorem dX6_roundsTake_117 : decode cX6_roundsTake 117 = .ok (.ireturn, 1) := by decide +kernel
theorem dX6_roundsTake_118 : decode cX6_roundsTake 118 = .ok (.aload_n 0, 1) := by decide +kernel
theorem dX6_roundsTake_119 : decode cX6_roundsTake 119 = .ok (.getfield 19, 3) := by decide +kernel
theorem dX6_roundsTake_122 : decode cX6_roundsTake 122 = .ok (.getfield 179, 3) := by decide +kernel
theorem dX6_roundsTake_125 : decode cX6_roundsTake 125 = .ok (.getfield 197, 3) := by decide +kernel
theorem dX6_roundsTake_128 : decode cX6_roundsTake 128 = .ok (.aload_n 0, 1) := by decide +kernel
theorem dX6_roundsTake_129 : decode cX6_roundsTake 129 = .ok (.getfield 10, 3) := by decide +kernel
theorem dX6_roundsTake_132 : decode cX6_roundsTake 132 = .ok (.getfield 179, 3) := by decide +kernel
theorem dX6_roundsTake_135 : decode cX6_roundsTake 135 = .ok (.getfield 197, 3) := by decide +kernel
theorem dX6_roundsTake_138 : decode cX6_roundsTake 138 = .ok (.isub, 1) := by decide +kernel
theorem dX6_roundsTake_139 : decode cX6_roundsTake 139 = .ok (.ireturn, 1) := by decide +kernel
theorem dX6_roundsTake_140 : decode cX6_roundsTake 140 = .ok (.aload_n 0, 1) := by decide +kernel
theorem dX6_roundsTake_141 : decode cX6_roundsTake 141 = .ok (.getfield 19, 3) := by decide +kernel
theorem dX6_roundsTake_144 : decode cX6_roundsTake 144 = .ok (.getfield 179, 3) := by decide +kernel
theorem dX6_roundsTake_147 : decode cX6_roundsTake 147 = .ok (.getfield 208, 3) := by decide +kernel
theorem dX6_roundsTake_150 : decode cX6_roundsTake 150 = .ok (.aload_n 0, 1) := by decide +kernel
theorem dX6_roundsTake_151 : decode cX6_roundsTake 151 = .ok (.getfield 10, 3) := by decide +kernel
theorem dX6_roundsTake_154 : decode cX6_roundsTake 154 = .ok (.getfield 179, 3) := by decide +kernel
theorem dX6_roundsTake_157 : decode cX6_roundsTake 157 = .ok (.getfield 208, 3) := by decide +kernel
theorem dX6_roundsTake_160 : decode cX6_roundsTake 160 = .ok (.isub, 1) := by decide +kernel
theorem dX6_roundsTake_161 : decode cX6_roundsTake 161 = .ok (.ireturn, 1) := by decide +kernel
theorem dX6_bestFrame_0 : decode cX6_bestFrame 0 = .ok (.iconst 0, 1) := by decide +kernel
theorem dX6_bestFrame_1 : decode cX6_bestFrame 1 = .ok (.istore_n 1, 1) := by decide +kernel
theorem dX6_bestFrame_2 : decode cX6_bestFrame 2 = .ok (.iconst 0, 1) := by decide +kernel
theorem dX6_bestFrame_3 : decode cX6_bestFrame 3 = .ok (.istore_n 2, 1) := by decide +kernel
theorem dX6_bestFrame_4 : decode cX6_bestFrame 4 = .ok (.iconst 0, 1) := by decide +kernel
theorem dX6_bestFrame_5 : decode cX6_bestFrame 5 = .ok (.istore_n 3, 1) := by decide +kernel
theorem dX6_bestFrame_6 : decode cX6_bestFrame 6 = .ok (.iconst 1, 1) := by decide +kernel
theorem dX6_bestFrame_7 : decode cX6_bestFrame 7 = .ok (.istore 4, 2) := by decide +kernel
theorem dX6_bestFrame_9 : decode cX6_bestFrame 9 = .ok (.iload 4, 2) := by decide +kernel
theorem dX6_bestFrame_11 : decode cX6_bestFrame 11 = .ok (.bipush 64, 2) := by decide +kernel
theorem dX6_bestFrame_13 : decode cX6_bestFrame 13 = .ok (.if_icmp .gt 85, 3) := by decide +kernel
theorem dX6_bestFrame_16 : decode cX6_bestFrame 16 = .ok (.aload_n 0, 1) := by decide +kernel
theorem dX6_bestFrame_17 : decode cX6_bestFrame 17 = .ok (.getfield 19, 3) := by decide +kernel
theorem dX6_bestFrame_20 : decode cX6_bestFrame 20 = .ok (.aload_n 0, 1) := by decide +kernel
theorem dX6_bestFrame_21 : decode cX6_bestFrame 21 = .ok (.getfield 10, 3) := by decide +kernel
theorem dX6_bestFrame_24 : decode cX6_bestFrame 24 = .ok (.invokevirtual 43, 3) := by decide +kernel
theorem dX6_bestFrame_27 : decode cX6_bestFrame 27 = .ok (.aload_n 0, 1) := by decide +kernel
theorem dX6_bestFrame_28 : decode cX6_bestFrame 28 = .ok (.getfield 19, 3) := by decide +kernel
theorem dX6_bestFrame_31 : decode cX6_bestFrame 31 = .ok (.iload 4, 2) := by decide +kernel
theorem dX6_bestFrame_33 : decode cX6_bestFrame 33 = .ok (.invokevirtual 88, 3) := by decide +kernel
theorem dX6_bestFrame_36 : decode cX6_bestFrame 36 = .ok (.istore 5, 2) := by decide +kernel
theorem dX6_bestFrame_38 : decode cX6_bestFrame 38 = .ok (.aload_n 0, 1) := by decide +kernel
theorem dX6_bestFrame_39 : decode cX6_bestFrame 39 = .ok (.getfield 19, 3) := by decide +kernel
theorem dX6_bestFrame_42 : decode cX6_bestFrame 42 = .ok (.getfield 179, 3) := by decide +kernel
theorem dX6_bestFrame_45 : decode cX6_bestFrame 45 = .ok (.getfield 194, 3) := by decide +kernel
theorem dX6_bestFrame_48 : decode cX6_bestFrame 48 = .ok (.aload_n 0, 1) := by decide +kernel
theorem dX6_bestFrame_49 : decode cX6_bestFrame 49 = .ok (.getfield 10, 3) := by decide +kernel
theorem dX6_bestFrame_52 : decode cX6_bestFrame 52 = .ok (.getfield 179, 3) := by decide +kernel
theorem dX6_bestFrame_55 : decode cX6_bestFrame 55 = .ok (.getfield 194, 3) := by decide +kernel
theorem dX6_bestFrame_58 : decode cX6_bestFrame 58 = .ok (.isub, 1) := by decide +kernel
theorem dX6_bestFrame_59 : decode cX6_bestFrame 59 = .ok (.istore 6, 2) := by decide +kernel
theorem dX6_bestFrame_61 : decode cX6_bestFrame 61 = .ok (.iload_n 1, 1) := by decide +kernel
theorem dX6_bestFrame_62 : decode cX6_bestFrame 62 = .ok (.ifCond .eq 21, 3) := by decide +kernel
theorem dX6_bestFrame_65 : decode cX6_bestFrame 65 = .ok (.iload 5, 2) := by decide +kernel
theorem dX6_bestFrame_67 : decode cX6_bestFrame 67 = .ok (.iload_n 2, 1) := by decide +kernel
theorem dX6_bestFrame_68 : decode cX6_bestFrame 68 = .ok (.if_icmp .gt 15, 3) := by decide +kernel
theorem dX6_bestFrame_71 : decode cX6_bestFrame 71 = .ok (.iload 5, 2) := by decide +kernel
theorem dX6_bestFrame_73 : decode cX6_bestFrame 73 = .ok (.iload_n 2, 1) := by decide +kernel
theorem dX6_bestFrame_74 : decode cX6_bestFrame 74 = .ok (.if_icmp .ne 18, 3) := by decide +kernel
theorem dX6_bestFrame_77 : decode cX6_bestFrame 77 = .ok (.iload 6, 2) := by decide +kernel
theorem dX6_bestFrame_79 : decode cX6_bestFrame 79 = .ok (.iload_n 3, 1) := by decide +kernel
theorem dX6_bestFrame_80 : decode cX6_bestFrame 80 = .ok (.if_icmp .ge 12, 3) := by decide +kernel
theorem dX6_bestFrame_83 : decode cX6_bestFrame 83 = .ok (.iload 4, 2) := by decide +kernel
theorem dX6_bestFrame_85 : decode cX6_bestFrame 85 = .ok (.istore_n 1, 1) := by decide +kernel
theorem dX6_bestFrame_86 : decode cX6_bestFrame 86 = .ok (.iload 5, 2) := by decide +kernel
theorem dX6_bestFrame_88 : decode cX6_bestFrame 88 = .ok (.istore_n 2, 1) := by decide +kernel
theorem dX6_bestFrame_89 : decode cX6_bestFrame 89 = .ok (.iload 6, 2) := by decide +kernel
theorem dX6_bestFrame_91 : decode cX6_bestFrame 91 = .ok (.istore_n 3, 1) := by decide +kernel
theorem dX6_bestFrame_92 : decode cX6_bestFrame 92 = .ok (.iinc 4 1, 3) := by decide +kernel
theorem dX6_bestFrame_95 : decode cX6_bestFrame 95 = .ok (.goto (-86), 3) := by decide +kernel
theorem dX6_bestFrame_98 : decode cX6_bestFrame 98 = .ok (.iload_n 1, 1) := by decide +kernel
theorem dX6_bestFrame_99 : decode cX6_bestFrame 99 = .ok (.ireturn, 1) := by decide +kernel
theorem dX6_thickest_0 : decode cX6_thickest 0 = .ok (.iload_n 1, 1) := by decide +kernel
theorem dX6_thickest_1 : decode cX6_thickest 1 = .ok (.iconst 0, 1) := by decide +kernel
theorem dX6_thickest_2 : decode cX6_thickest 2 = .ok (.invokestatic 77, 3) := by decide +kernel
theorem dX6_thickest_5 : decode cX6_thickest 5 = .ok (.ifCond .ne 6, 3) := by decide +kernel
theorem dX6_thickest_8 : decode cX6_thickest 8 = .ok (.bipush (-2), 2) := by decide +kernel
theorem dX6_thickest_10 : decode cX6_thickest 10 = .ok (.ireturn, 1) := by decide +kernel
theorem dX6_thickest_11 : decode cX6_thickest 11 = .ok (.bipush (-5), 2) := by decide +kernel
theorem dX6_thickest_13 : decode cX6_thickest 13 = .ok (.istore_n 2, 1) := by decide +kernel
theorem dX6_thickest_14 : decode cX6_thickest 14 = .ok (.iconst 0, 1) := by decide +kernel
theorem dX6_thickest_15 : decode cX6_thickest 15 = .ok (.istore_n 3, 1) := by decide +kernel
theorem dX6_thickest_16 : decode cX6_thickest 16 = .ok (.iconst 0, 1) := by decide +kernel
theorem dX6_thickest_17 : decode cX6_thickest 17 = .ok (.istore 4, 2) := by decide +kernel
theorem dX6_thickest_19 : decode cX6_thickest 19 = .ok (.iload 4, 2) := by decide +kernel
theorem dX6_thickest_21 : decode cX6_thickest 21 = .ok (.iconst 1, 1) := by decide +kernel
theorem dX6_thickest_22 : decode cX6_thickest 22 = .ok (.iload_n 1, 1) := by decide +kernel
theorem dX6_thickest_23 : decode cX6_thickest 23 = .ok (.ishl, 1) := by decide +kernel
theorem dX6_thickest_24 : decode cX6_thickest 24 = .ok (.if_icmp .ge 36, 3) := by decide +kernel
theorem dX6_thickest_27 : decode cX6_thickest 27 = .ok (.aload_n 0, 1) := by decide +kernel
theorem dX6_thickest_28 : decode cX6_thickest 28 = .ok (.getfield 10, 3) := by decide +kernel
theorem dX6_thickest_31 : decode cX6_thickest 31 = .ok (.getfield 122, 3) := by decide +kernel
theorem dX6_thickest_34 : decode cX6_thickest 34 = .ok (.iload_n 1, 1) := by decide +kernel
theorem dX6_thickest_35 : decode cX6_thickest 35 = .ok (.iload 4, 2) := by decide +kernel
theorem dX6_thickest_37 : decode cX6_thickest 37 = .ok (.invokevirtual 188, 3) := by decide +kernel
theorem dX6_thickest_40 : decode cX6_thickest 40 = .ok (.istore 5, 2) := by decide +kernel
theorem dX6_thickest_42 : decode cX6_thickest 42 = .ok (.iload 5, 2) := by decide +kernel
theorem dX6_thickest_44 : decode cX6_thickest 44 = .ok (.iload_n 3, 1) := by decide +kernel
theorem dX6_thickest_45 : decode cX6_thickest 45 = .ok (.if_icmp .le 9, 3) := by decide +kernel
theorem dX6_thickest_48 : decode cX6_thickest 48 = .ok (.iload 4, 2) := by decide +kernel
theorem dX6_thickest_50 : decode cX6_thickest 50 = .ok (.istore_n 2, 1) := by decide +kernel
theorem dX6_thickest_51 : decode cX6_thickest 51 = .ok (.iload 5, 2) := by decide +kernel
theorem dX6_thickest_53 : decode cX6_thickest 53 = .ok (.istore_n 3, 1) := by decide +kernel
theorem dX6_thickest_54 : decode cX6_thickest 54 = .ok (.iinc 4 1, 3) := by decide +kernel
theorem dX6_thickest_57 : decode cX6_thickest 57 = .ok (.goto (-38), 3) := by decide +kernel
theorem dX6_thickest_60 : decode cX6_thickest 60 = .ok (.iload_n 2, 1) := by decide +kernel
theorem dX6_thickest_61 : decode cX6_thickest 61 = .ok (.ireturn, 1) := by decide +kernel
theorem dX6_recorded_0 : decode cX6_recorded 0 = .ok (.iload_n 1, 1) := by decide +kernel
theorem dX6_recorded_1 : decode cX6_recorded 1 = .ok (.ifCond .lt 14, 3) := by decide +kernel
theorem dX6_recorded_4 : decode cX6_recorded 4 = .ok (.aload_n 0, 1) := by decide +kernel
theorem dX6_recorded_5 : decode cX6_recorded 5 = .ok (.getfield 32, 3) := by decide +kernel
theorem dX6_recorded_8 : decode cX6_recorded 8 = .ok (.aload_n 0, 1) := by decide +kernel
theorem dX6_recorded_9 : decode cX6_recorded 9 = .ok (.getfield 16, 3) := by decide +kernel
theorem dX6_recorded_12 : decode cX6_recorded 12 = .ok (.invokevirtual 211, 3) := by decide +kernel
theorem dX6_recorded_15 : decode cX6_recorded 15 = .ok (.iload_n 1, 1) := by decide +kernel
theorem dX6_recorded_16 : decode cX6_recorded 16 = .ok (.ireturn, 1) := by decide +kernel
theorem dX6_isBeginning_0 : decode cX6_isBeginning 0 = .ok (.iload_n 0, 1) := by decide +kernel
theorem dX6_isBeginning_1 : decode cX6_isBeginning 1 = .ok (.ifCond .lt 24, 3) := by decide +kernel
theorem dX6_isBeginning_4 : decode cX6_isBeginning 4 = .ok (.iload_n 0, 1) := by decide +kernel
theorem dX6_isBeginning_5 : decode cX6_isBeginning 5 = .ok (.bipush 8, 2) := by decide +kernel
theorem dX6_isBeginning_7 : decode cX6_isBeginning 7 = .ok (.if_icmp .gt 18, 3) := by decide +kernel
theorem dX6_isBeginning_10 : decode cX6_isBeginning 10 = .ok (.iload_n 1, 1) := by decide +kernel
theorem dX6_isBeginning_11 : decode cX6_isBeginning 11 = .ok (.ifCond .lt 14, 3) := by decide +kernel
theorem dX6_isBeginning_14 : decode cX6_isBeginning 14 = .ok (.iload_n 1, 1) := by decide +kernel
theorem dX6_isBeginning_15 : decode cX6_isBeginning 15 = .ok (.iconst 1, 1) := by decide +kernel
theorem dX6_isBeginning_16 : decode cX6_isBeginning 16 = .ok (.iload_n 0, 1) := by decide +kernel
theorem dX6_isBeginning_17 : decode cX6_isBeginning 17 = .ok (.ishl, 1) := by decide +kernel
theorem dX6_isBeginning_18 : decode cX6_isBeginning 18 = .ok (.if_icmp .ge 7, 3) := by decide +kernel
theorem dX6_isBeginning_21 : decode cX6_isBeginning 21 = .ok (.iconst 1, 1) := by decide +kernel
theorem dX6_isBeginning_22 : decode cX6_isBeginning 22 = .ok (.goto 4, 3) := by decide +kernel
theorem dX6_isBeginning_25 : decode cX6_isBeginning 25 = .ok (.iconst 0, 1) := by decide +kernel
theorem dX6_isBeginning_26 : decode cX6_isBeginning 26 = .ok (.ireturn, 1) := by decide +kernel
theorem dX6_isFrameSize_0 : decode cX6_isFrameSize 0 = .ok (.iload_n 0, 1) := by decide +kernel
theorem dX6_isFrameSize_1 : decode cX6_isFrameSize 1 = .ok (.iconst 1, 1) := by decide +kernel
theorem dX6_isFrameSize_2 : decode cX6_isFrameSize 2 = .ok (.if_icmp .lt 13, 3) := by decide +kernel
theorem dX6_isFrameSize_5 : decode cX6_isFrameSize 5 = .ok (.iload_n 0, 1) := by decide +kernel
theorem dX6_isFrameSize_6 : decode cX6_isFrameSize 6 = .ok (.bipush 64, 2) := by decide +kernel
theorem dX6_isFrameSize_8 : decode cX6_isFrameSize 8 = .ok (.if_icmp .gt 7, 3) := by decide +kernel
theorem dX6_isFrameSize_11 : decode cX6_isFrameSize 11 = .ok (.iconst 1, 1) := by decide +kernel
theorem dX6_isFrameSize_12 : decode cX6_isFrameSize 12 = .ok (.goto 4, 3) := by decide +kernel
theorem dX6_isFrameSize_15 : decode cX6_isFrameSize 15 = .ok (.iconst 0, 1) := by decide +kernel
theorem dX6_isFrameSize_16 : decode cX6_isFrameSize 16 = .ok (.ireturn, 1) := by decide +kernel
theorem dX6_firstBits_0 : decode cX6_firstBits 0 = .ok (.iload_n 1, 1) := by decide +kernel
theorem dX6_firstBits_1 : decode cX6_firstBits 1 = .ok (.ifCond .lt 18, 3) := by decide +kernel
theorem dX6_firstBits_4 : decode cX6_firstBits 4 = .ok (.iload_n 1, 1) := by decide +kernel
theorem dX6_firstBits_5 : decode cX6_firstBits 5 = .ok (.bipush 8, 2) := by decide +kernel
theorem dX6_firstBits_7 : decode cX6_firstBits 7 = .ok (.if_icmp .gt 12, 3) := by decide +kernel
theorem dX6_firstBits_10 : decode cX6_firstBits 10 = .ok (.iload_n 0, 1) := by decide +kernel
theorem dX6_firstBits_11 : decode cX6_firstBits 11 = .ok (.bipush 8, 2) := by decide +kernel
theorem dX6_firstBits_13 : decode cX6_firstBits 13 = .ok (.iload_n 1, 1) := by decide +kernel
theorem dX6_firstBits_14 : decode cX6_firstBits 14 = .ok (.isub, 1) := by decide +kernel
theorem dX6_firstBits_15 : decode cX6_firstBits 15 = .ok (.ishr, 1) := by decide +kernel
theorem dX6_firstBits_16 : decode cX6_firstBits 16 = .ok (.goto 4, 3) := by decide +kernel
theorem dX6_firstBits_19 : decode cX6_firstBits 19 = .ok (.iconst 0, 1) := by decide +kernel
theorem dX6_firstBits_20 : decode cX6_firstBits 20 = .ok (.ireturn, 1) := by decide +kernel
theorem dX6_firstOne_0 : decode cX6_firstOne 0 = .ok (.iconst 0, 1) := by decide +kernel
theorem dX6_firstOne_1 : decode cX6_firstOne 1 = .ok (.istore_n 1, 1) := by decide +kernel
theorem dX6_firstOne_2 : decode cX6_firstOne 2 = .ok (.iload_n 1, 1) := by decide +kernel
theorem dX6_firstOne_3 : decode cX6_firstOne 3 = .ok (.bipush 8, 2) := by decide +kernel
theorem dX6_firstOne_5 : decode cX6_firstOne 5 = .ok (.if_icmp .ge 18, 3) := by decide +kernel
theorem dX6_firstOne_8 : decode cX6_firstOne 8 = .ok (.iload_n 0, 1) := by decide +kernel
theorem dX6_firstOne_9 : decode cX6_firstOne 9 = .ok (.bipush 7, 2) := by decide +kernel
theorem dX6_firstOne_11 : decode cX6_firstOne 11 = .ok (.iload_n 1, 1) := by decide +kernel
theorem dX6_firstOne_12 : decode cX6_firstOne 12 = .ok (.isub, 1) := by decide +kernel
theorem dX6_firstOne_13 : decode cX6_firstOne 13 = .ok (.ishr, 1) := by decide +kernel
theorem dX6_firstOne_14 : decode cX6_firstOne 14 = .ok (.ifCond .ne 9, 3) := by decide +kernel
theorem dX6_firstOne_17 : decode cX6_firstOne 17 = .ok (.iinc 1 1, 3) := by decide +kernel
theorem dX6_firstOne_20 : decode cX6_firstOne 20 = .ok (.goto (-18), 3) := by decide +kernel
theorem dX6_firstOne_23 : decode cX6_firstOne 23 = .ok (.iload_n 1, 1) := by decide +kernel
theorem dX6_firstOne_24 : decode cX6_firstOne 24 = .ok (.ireturn, 1) := by decide +kernel
theorem dX7_init_0 : decode cX7_init 0 = .ok (.aload_n 0, 1) := by decide +kernel
theorem dX7_init_1 : decode cX7_init 1 = .ok (.invokespecial 1, 3) := by decide +kernel
theorem dX7_init_4 : decode cX7_init 4 = .ok (.aload_n 0, 1) := by decide +kernel
theorem dX7_init_5 : decode cX7_init 5 = .ok (.sipush 293, 3) := by decide +kernel
theorem dX7_init_8 : decode cX7_init 8 = .ok (.newarray .int, 2) := by decide +kernel
theorem dX7_init_10 : decode cX7_init 10 = .ok (.putfield 7, 3) := by decide +kernel
theorem dX7_init_13 : decode cX7_init 13 = .ok (.aload_n 0, 1) := by decide +kernel
theorem dX7_init_14 : decode cX7_init 14 = .ok (.sipush 293, 3) := by decide +kernel
theorem dX7_init_17 : decode cX7_init 17 = .ok (.newarray .int, 2) := by decide +kernel
theorem dX7_init_19 : decode cX7_init 19 = .ok (.putfield 13, 3) := by decide +kernel
theorem dX7_init_22 : decode cX7_init 22 = .ok (.aload_n 0, 1) := by decide +kernel
theorem dX7_init_23 : decode cX7_init 23 = .ok (.sipush 1172, 3) := by decide +kernel
theorem dX7_init_26 : decode cX7_init 26 = .ok (.newarray .int, 2) := by decide +kernel
theorem dX7_init_28 : decode cX7_init 28 = .ok (.putfield 16, 3) := by decide +kernel
theorem dX7_init_31 : decode cX7_init 31 = .ok (.aload_n 0, 1) := by decide +kernel
theorem dX7_init_32 : decode cX7_init 32 = .ok (.sipush 293, 3) := by decide +kernel
theorem dX7_init_35 : decode cX7_init 35 = .ok (.newarray .int, 2) := by decide +kernel
theorem dX7_init_37 : decode cX7_init 37 = .ok (.putfield 19, 3) := by decide +kernel
theorem dX7_init_40 : decode cX7_init 40 = .ok (.aload_n 0, 1) := by decide +kernel
theorem dX7_init_41 : decode cX7_init 41 = .ok (.bipush 60, 2) := by decide +kernel
theorem dX7_init_43 : decode cX7_init 43 = .ok (.newarray .int, 2) := by decide +kernel
theorem dX7_init_45 : decode cX7_init 45 = .ok (.putfield 22, 3) := by decide +kernel
theorem dX7_init_48 : decode cX7_init 48 = .ok (.aload_n 0, 1) := by decide +kernel
theorem dX7_init_49 : decode cX7_init 49 = .ok (.bipush 20, 2) := by decide +kernel
theorem dX7_init_51 : decode cX7_init 51 = .ok (.newarray .int, 2) := by decide +kernel
theorem dX7_init_53 : decode cX7_init 53 = .ok (.putfield 25, 3) := by decide +kernel
theorem dX7_init_56 : decode cX7_init 56 = .ok (.aload_n 0, 1) := by decide +kernel
theorem dX7_init_57 : decode cX7_init 57 = .ok (.bipush 20, 2) := by decide +kernel
theorem dX7_init_59 : decode cX7_init 59 = .ok (.newarray .int, 2) := by decide +kernel
theorem dX7_init_61 : decode cX7_init 61 = .ok (.putfield 28, 3) := by decide +kernel
theorem dX7_init_64 : decode cX7_init 64 = .ok (.aload_n 0, 1) := by decide +kernel
theorem dX7_init_65 : decode cX7_init 65 = .ok (.bipush 20, 2) := by decide +kernel
theorem dX7_init_67 : decode cX7_init 67 = .ok (.newarray .int, 2) := by decide +kernel
theorem dX7_init_69 : decode cX7_init 69 = .ok (.putfield 31, 3) := by decide +kernel
theorem dX7_init_72 : decode cX7_init 72 = .ok (.aload_n 0, 1) := by decide +kernel
theorem dX7_init_73 : decode cX7_init 73 = .ok (.bipush 31, 2) := by decide +kernel
theorem dX7_init_75 : decode cX7_init 75 = .ok (.newarray .int, 2) := by decide +kernel
theorem dX7_init_77 : decode cX7_init 77 = .ok (.putfield 34, 3) := by decide +kernel
theorem dX7_init_80 : decode cX7_init 80 = .ok (.aload_n 0, 1) := by decide +kernel
theorem dX7_init_81 : decode cX7_init 81 = .ok (.bipush 31, 2) := by decide +kernel
theorem dX7_init_83 : decode cX7_init 83 = .ok (.newarray .int, 2) := by decide +kernel
theorem dX7_init_85 : decode cX7_init 85 = .ok (.putfield 37, 3) := by decide +kernel
theorem dX7_init_88 : decode cX7_init 88 = .ok (.aload_n 0, 1) := by decide +kernel
theorem dX7_init_89 : decode cX7_init 89 = .ok (.getfield 7, 3) := by decide +kernel
theorem dX7_init_92 : decode cX7_init 92 = .ok (.iconst 2, 1) := by decide +kernel
theorem dX7_init_93 : decode cX7_init 93 = .ok (.iconst 1, 1) := by decide +kernel
theorem dX7_init_94 : decode cX7_init 94 = .ok (.iastore, 1) := by decide +kernel
theorem dX7_init_95 : decode cX7_init 95 = .ok (.aload_n 0, 1) := by decide +kernel
theorem dX7_init_96 : decode cX7_init 96 = .ok (.getfield 7, 3) := by decide +kernel
theorem dX7_init_99 : decode cX7_init 99 = .ok (.iconst 4, 1) := by decide +kernel
theorem dX7_init_100 : decode cX7_init 100 = .ok (.iconst 1, 1) := by decide +kernel
theorem dX7_init_101 : decode cX7_init 101 = .ok (.iastore, 1) := by decide +kernel
theorem dX7_init_102 : decode cX7_init 102 = .ok (.return_, 1) := by decide +kernel
theorem dX7_in_0 : decode cX7_in 0 = .ok (.iload_n 0, 1) := by decide +kernel
theorem dX7_in_1 : decode cX7_in 1 = .ok (.iload_n 1, 1) := by decide +kernel
theorem dX7_in_2 : decode cX7_in 2 = .ok (.if_icmp .lt 12, 3) := by decide +kernel
theorem dX7_in_5 : decode cX7_in 5 = .ok (.iload_n 0, 1) := by decide +kernel
theorem dX7_in_6 : decode cX7_in 6 = .ok (.iload_n 2, 1) := by decide +kernel
theorem dX7_in_7 : decode cX7_in 7 = .ok (.if_icmp .gt 7, 3) := by decide +kernel
theorem dX7_in_10 : decode cX7_in 10 = .ok (.iconst 1, 1) := by decide +kernel
theorem dX7_in_11 : decode cX7_in 11 = .ok (.goto 4, 3) := by decide +kernel
theorem dX7_in_14 : decode cX7_in 14 = .ok (.iconst 0, 1) := by decide +kernel
theorem dX7_in_15 : decode cX7_in 15 = .ok (.ireturn, 1) := by decide +kernel
theorem dX7_of_0 : decode cX7_of 0 = .ok (.aload_n 0, 1) := by decide +kernel
theorem dX7_of_1 : decode cX7_of 1 = .ok (.getfield 7, 3) := by decide +kernel
theorem dX7_of_4 : decode cX7_of 4 = .ok (.bipush 13, 2) := by decide +kernel
theorem dX7_of_6 : decode cX7_of 6 = .ok (.iconst 4, 1) := by decide +kernel
theorem dX7_of_7 : decode cX7_of 7 = .ok (.iload_n 1, 1) := by decide +kernel
theorem dX7_of_8 : decode cX7_of 8 = .ok (.imul, 1) := by decide +kernel
theorem dX7_of_9 : decode cX7_of 9 = .ok (.iadd, 1) := by decide +kernel
theorem dX7_of_10 : decode cX7_of 10 = .ok (.iload_n 2, 1) := by decide +kernel
theorem dX7_of_11 : decode cX7_of 11 = .ok (.iadd, 1) := by decide +kernel
theorem dX7_of_12 : decode cX7_of 12 = .ok (.iaload, 1) := by decide +kernel
theorem dX7_of_13 : decode cX7_of 13 = .ok (.ireturn, 1) := by decide +kernel
theorem dX7_lay_0 : decode cX7_lay 0 = .ok (.aload_n 0, 1) := by decide +kernel
theorem dX7_lay_1 : decode cX7_lay 1 = .ok (.getfield 7, 3) := by decide +kernel
theorem dX7_lay_4 : decode cX7_lay 4 = .ok (.bipush 13, 2) := by decide +kernel
theorem dX7_lay_6 : decode cX7_lay 6 = .ok (.iconst 4, 1) := by decide +kernel
theorem dX7_lay_7 : decode cX7_lay 7 = .ok (.iload_n 1, 1) := by decide +kernel
theorem dX7_lay_8 : decode cX7_lay 8 = .ok (.imul, 1) := by decide +kernel
theorem dX7_lay_9 : decode cX7_lay 9 = .ok (.iadd, 1) := by decide +kernel
theorem dX7_lay_10 : decode cX7_lay 10 = .ok (.iload_n 2, 1) := by decide +kernel
theorem dX7_lay_11 : decode cX7_lay 11 = .ok (.iadd, 1) := by decide +kernel
theorem dX7_lay_12 : decode cX7_lay 12 = .ok (.iload_n 3, 1) := by decide +kernel
theorem dX7_lay_13 : decode cX7_lay 13 = .ok (.iastore, 1) := by decide +kernel
theorem dX7_lay_14 : decode cX7_lay 14 = .ok (.return_, 1) := by decide +kernel
theorem dX7_cardWith_0 : decode cX7_cardWith 0 = .ok (.bipush (-5), 2) := by decide +kernel
theorem dX7_cardWith_2 : decode cX7_cardWith 2 = .ok (.istore_n 2, 1) := by decide +kernel
theorem dX7_cardWith_3 : decode cX7_cardWith 3 = .ok (.iconst 0, 1) := by decide +kernel
theorem dX7_cardWith_4 : decode cX7_cardWith 4 = .ok (.istore_n 3, 1) := by decide +kernel
theorem dX7_cardWith_5 : decode cX7_cardWith 5 = .ok (.iload_n 3, 1) := by decide +kernel
theorem dX7_cardWith_6 : decode cX7_cardWith 6 = .ok (.aload_n 0, 1) := by decide +kernel
theorem dX7_cardWith_7 : decode cX7_cardWith 7 = .ok (.getfield 7, 3) := by decide +kernel
theorem dX7_cardWith_10 : decode cX7_cardWith 10 = .ok (.iconst 0, 1) := by decide +kernel
theorem dX7_cardWith_11 : decode cX7_cardWith 11 = .ok (.iaload, 1) := by decide +kernel
theorem dX7_cardWith_12 : decode cX7_cardWith 12 = .ok (.if_icmp .ge 25, 3) := by decide +kernel
theorem dX7_cardWith_15 : decode cX7_cardWith 15 = .ok (.aload_n 0, 1) := by decide +kernel
theorem dX7_cardWith_16 : decode cX7_cardWith 16 = .ok (.iload_n 3, 1) := by decide +kernel
theorem dX7_cardWith_17 : decode cX7_cardWith 17 = .ok (.iconst 0, 1) := by decide +kernel
theorem dX7_cardWith_18 : decode cX7_cardWith 18 = .ok (.invokevirtual 40, 3) := by decide +kernel
theorem dX7_cardWith_21 : decode cX7_cardWith 21 = .ok (.iload_n 1, 1) := by decide +kernel
theorem dX7_cardWith_22 : decode cX7_cardWith 22 = .ok (.if_icmp .ne 7, 3) := by decide +kernel
theorem dX7_cardWith_25 : decode cX7_cardWith 25 = .ok (.iload_n 3, 1) := by decide +kernel
theorem dX7_cardWith_26 : decode cX7_cardWith 26 = .ok (.goto 4, 3) := by decide +kernel
theorem dX7_cardWith_29 : decode cX7_cardWith 29 = .ok (.iload_n 2, 1) := by decide +kernel
theorem dX7_cardWith_30 : decode cX7_cardWith 30 = .ok (.istore_n 2, 1) := by decide +kernel
theorem dX7_cardWith_31 : decode cX7_cardWith 31 = .ok (.iinc 3 1, 3) := by decide +kernel
theorem dX7_cardWith_34 : decode cX7_cardWith 34 = .ok (.goto (-29), 3) := by decide +kernel
theorem dX7_cardWith_37 : decode cX7_cardWith 37 = .ok (.iload_n 2, 1) := by decide +kernel
theorem dX7_cardWith_38 : decode cX7_cardWith 38 = .ok (.ireturn, 1) := by decide +kernel
theorem dX7_copyState_0 : decode cX7_copyState 0 = .ok (.iconst 0, 1) := by decide +kernel
theorem dX7_copyState_1 : decode cX7_copyState 1 = .ok (.istore 4, 2) := by decide +kernel
theorem dX7_copyState_3 : decode cX7_copyState 3 = .ok (.iload 4, 2) := by decide +kernel
theorem dX7_copyState_5 : decode cX7_copyState 5 = .ok (.sipush 293, 3) := by decide +kernel
theorem dX7_copyState_8 : decode cX7_copyState 8 = .ok (.if_icmp .ge 21, 3) := by decide +kernel
theorem dX7_copyState_11 : decode cX7_copyState 11 = .ok (.aload_n 2, 1) := by decide +kernel
theorem dX7_copyState_12 : decode cX7_copyState 12 = .ok (.iload_n 3, 1) := by decide +kernel
theorem dX7_copyState_13 : decode cX7_copyState 13 = .ok (.iload 4, 2) := by decide +kernel
theorem dX7_copyState_15 : decode cX7_copyState 15 = .ok (.iadd, 1) := by decide +kernel
theorem dX7_copyState_16 : decode cX7_copyState 16 = .ok (.aload_n 0, 1) := by decide +kernel
theorem dX7_copyState_17 : decode cX7_copyState 17 = .ok (.iload_n 1, 1) := by decide +kernel
theorem dX7_copyState_18 : decode cX7_copyState 18 = .ok (.iload 4, 2) := by decide +kernel
theorem dX7_copyState_20 : decode cX7_copyState 20 = .ok (.iadd, 1) := by decide +kernel
theorem dX7_copyState_21 : decode cX7_copyState 21 = .ok (.iaload, 1) := by decide +kernel
theorem dX7_copyState_22 : decode cX7_copyState 22 = .ok (.iastore, 1) := by decide +kernel
theorem dX7_copyState_23 : decode cX7_copyState 23 = .ok (.iinc 4 1, 3) := by decide +kernel
theorem dX7_copyState_26 : decode cX7_copyState 26 = .ok (.goto (-23), 3) := by decide +kernel
theorem dX7_copyState_29 : decode cX7_copyState 29 = .ok (.return_, 1) := by decide +kernel
theorem dX7_recordRow_0 : decode cX7_recordRow 0 = .ok (.aload_n 0, 1) := by decide +kernel
theorem dX7_recordRow_1 : decode cX7_recordRow 1 = .ok (.getfield 44, 3) := by decide +kernel
theorem dX7_recordRow_4 : decode cX7_recordRow 4 = .ok (.iconst 4, 1) := by decide +kernel
theorem dX7_recordRow_5 : decode cX7_recordRow 5 = .ok (.if_icmp .ne 44, 3) := by decide +kernel
theorem dX7_recordRow_8 : decode cX7_recordRow 8 = .ok (.iconst 0, 1) := by decide +kernel
theorem dX7_recordRow_9 : decode cX7_recordRow 9 = .ok (.istore_n 2, 1) := by decide +kernel
theorem dX7_recordRow_10 : decode cX7_recordRow 10 = .ok (.iload_n 2, 1) := by decide +kernel
theorem dX7_recordRow_11 : decode cX7_recordRow 11 = .ok (.sipush 879, 3) := by decide +kernel
theorem dX7_recordRow_14 : decode cX7_recordRow 14 = .ok (.if_icmp .ge 25, 3) := by decide +kernel
theorem dX7_recordRow_17 : decode cX7_recordRow 17 = .ok (.aload_n 0, 1) := by decide +kernel
theorem dX7_recordRow_18 : decode cX7_recordRow 18 = .ok (.getfield 16, 3) := by decide +kernel
theorem dX7_recordRow_21 : decode cX7_recordRow 21 = .ok (.iload_n 2, 1) := by decide +kernel
theorem dX7_recordRow_22 : decode cX7_recordRow 22 = .ok (.aload_n 0, 1) := by decide +kernel
theorem dX7_recordRow_23 : decode cX7_recordRow 23 = .ok (.getfield 16, 3) := by decide +kernel
theorem dX7_recordRow_26 : decode cX7_recordRow 26 = .ok (.iload_n 2, 1) := by decide +kernel
theorem dX7_recordRow_27 : decode cX7_recordRow 27 = .ok (.sipush 293, 3) := by decide +kernel
theorem dX7_recordRow_30 : decode cX7_recordRow 30 = .ok (.iadd, 1) := by decide +kernel
theorem dX7_recordRow_31 : decode cX7_recordRow 31 = .ok (.iaload, 1) := by decide +kernel
end
section
theorem dX7_recordRow_32 : decode cX7_recordRow 32 = .ok (.iastore, 1) := by decide +kernel
theorem dX7_recordRow_33 : decode cX7_recordRow 33 = .ok (.iinc 2 1, 3) := by decide +kernel
theorem dX7_recordRow_36 : decode cX7_recordRow 36 = .ok (.goto (-26), 3) := by decide +kernel
theorem dX7_recordRow_39 : decode cX7_recordRow 39 = .ok (.aload_n 0, 1) := by decide +kernel
theorem dX7_recordRow_40 : decode cX7_recordRow 40 = .ok (.dup, 1) := by decide +kernel
theorem dX7_recordRow_41 : decode cX7_recordRow 41 = .ok (.getfield 44, 3) := by decide +kernel
theorem dX7_recordRow_44 : decode cX7_recordRow 44 = .ok (.iconst 1, 1) := by decide +kernel
theorem dX7_recordRow_45 : decode cX7_recordRow 45 = .ok (.isub, 1) := by decide +kernel
theorem dX7_recordRow_46 : decode cX7_recordRow 46 = .ok (.putfield 44, 3) := by decide +kernel
theorem dX7_recordRow_49 : decode cX7_recordRow 49 = .ok (.aload_n 1, 1) := by decide +kernel
theorem dX7_recordRow_50 : decode cX7_recordRow 50 = .ok (.iconst 0, 1) := by decide +kernel
theorem dX7_recordRow_51 : decode cX7_recordRow 51 = .ok (.aload_n 0, 1) := by decide +kernel
theorem dX7_recordRow_52 : decode cX7_recordRow 52 = .ok (.getfield 16, 3) := by decide +kernel
theorem dX7_recordRow_55 : decode cX7_recordRow 55 = .ok (.sipush 293, 3) := by decide +kernel
theorem dX7_recordRow_58 : decode cX7_recordRow 58 = .ok (.aload_n 0, 1) := by decide +kernel
theorem dX7_recordRow_59 : decode cX7_recordRow 59 = .ok (.getfield 44, 3) := by decide +kernel
theorem dX7_recordRow_62 : decode cX7_recordRow 62 = .ok (.imul, 1) := by decide +kernel
theorem dX7_recordRow_63 : decode cX7_recordRow 63 = .ok (.invokestatic 48, 3) := by decide +kernel
theorem dX7_recordRow_66 : decode cX7_recordRow 66 = .ok (.aload_n 0, 1) := by decide +kernel
theorem dX7_recordRow_67 : decode cX7_recordRow 67 = .ok (.dup, 1) := by decide +kernel
theorem dX7_recordRow_68 : decode cX7_recordRow 68 = .ok (.getfield 44, 3) := by decide +kernel
theorem dX7_recordRow_71 : decode cX7_recordRow 71 = .ok (.iconst 1, 1) := by decide +kernel
theorem dX7_recordRow_72 : decode cX7_recordRow 72 = .ok (.iadd, 1) := by decide +kernel
theorem dX7_recordRow_73 : decode cX7_recordRow 73 = .ok (.putfield 44, 3) := by decide +kernel
theorem dX7_recordRow_76 : decode cX7_recordRow 76 = .ok (.return_, 1) := by decide +kernel
theorem dX7_record_0 : decode cX7_record 0 = .ok (.aload_n 0, 1) := by decide +kernel
theorem dX7_record_1 : decode cX7_record 1 = .ok (.aload_n 0, 1) := by decide +kernel
theorem dX7_record_2 : decode cX7_record 2 = .ok (.getfield 7, 3) := by decide +kernel
theorem dX7_record_5 : decode cX7_record 5 = .ok (.invokevirtual 52, 3) := by decide +kernel
theorem dX7_record_8 : decode cX7_record 8 = .ok (.return_, 1) := by decide +kernel
theorem dX7_undo_0 : decode cX7_undo 0 = .ok (.aload_n 0, 1) := by decide +kernel
theorem dX7_undo_1 : decode cX7_undo 1 = .ok (.getfield 44, 3) := by decide +kernel
theorem dX7_undo_4 : decode cX7_undo 4 = .ok (.ifCond .ne 6, 3) := by decide +kernel
theorem dX7_undo_7 : decode cX7_undo 7 = .ok (.bipush (-5), 2) := by decide +kernel
theorem dX7_undo_9 : decode cX7_undo 9 = .ok (.ireturn, 1) := by decide +kernel
theorem dX7_undo_10 : decode cX7_undo 10 = .ok (.aload_n 0, 1) := by decide +kernel
theorem dX7_undo_11 : decode cX7_undo 11 = .ok (.dup, 1) := by decide +kernel
theorem dX7_undo_12 : decode cX7_undo 12 = .ok (.getfield 44, 3) := by decide +kernel
theorem dX7_undo_15 : decode cX7_undo 15 = .ok (.iconst 1, 1) := by decide +kernel
theorem dX7_undo_16 : decode cX7_undo 16 = .ok (.isub, 1) := by decide +kernel
theorem dX7_undo_17 : decode cX7_undo 17 = .ok (.putfield 44, 3) := by decide +kernel
theorem dX7_undo_20 : decode cX7_undo 20 = .ok (.aload_n 0, 1) := by decide +kernel
theorem dX7_undo_21 : decode cX7_undo 21 = .ok (.getfield 16, 3) := by decide +kernel
theorem dX7_undo_24 : decode cX7_undo 24 = .ok (.sipush 293, 3) := by decide +kernel
theorem dX7_undo_27 : decode cX7_undo 27 = .ok (.aload_n 0, 1) := by decide +kernel
theorem dX7_undo_28 : decode cX7_undo 28 = .ok (.getfield 44, 3) := by decide +kernel
theorem dX7_undo_31 : decode cX7_undo 31 = .ok (.imul, 1) := by decide +kernel
theorem dX7_undo_32 : decode cX7_undo 32 = .ok (.aload_n 0, 1) := by decide +kernel
theorem dX7_undo_33 : decode cX7_undo 33 = .ok (.getfield 7, 3) := by decide +kernel
theorem dX7_undo_36 : decode cX7_undo 36 = .ok (.iconst 0, 1) := by decide +kernel
theorem dX7_undo_37 : decode cX7_undo 37 = .ok (.invokestatic 48, 3) := by decide +kernel
theorem dX7_undo_40 : decode cX7_undo 40 = .ok (.aload_n 0, 1) := by decide +kernel
theorem dX7_undo_41 : decode cX7_undo 41 = .ok (.getfield 44, 3) := by decide +kernel
theorem dX7_undo_44 : decode cX7_undo 44 = .ok (.ireturn, 1) := by decide +kernel
theorem dX7_keep_0 : decode cX7_keep 0 = .ok (.aload_n 0, 1) := by decide +kernel
theorem dX7_keep_1 : decode cX7_keep 1 = .ok (.getfield 7, 3) := by decide +kernel
theorem dX7_keep_4 : decode cX7_keep 4 = .ok (.iconst 0, 1) := by decide +kernel
theorem dX7_keep_5 : decode cX7_keep 5 = .ok (.aload_n 0, 1) := by decide +kernel
theorem dX7_keep_6 : decode cX7_keep 6 = .ok (.getfield 19, 3) := by decide +kernel
theorem dX7_keep_9 : decode cX7_keep 9 = .ok (.iconst 0, 1) := by decide +kernel
theorem dX7_keep_10 : decode cX7_keep 10 = .ok (.invokestatic 48, 3) := by decide +kernel
theorem dX7_keep_13 : decode cX7_keep 13 = .ok (.aload_n 0, 1) := by decide +kernel
theorem dX7_keep_14 : decode cX7_keep 14 = .ok (.iconst 1, 1) := by decide +kernel
theorem dX7_keep_15 : decode cX7_keep 15 = .ok (.putfield 56, 3) := by decide +kernel
theorem dX7_keep_18 : decode cX7_keep 18 = .ok (.aload_n 0, 1) := by decide +kernel
theorem dX7_keep_19 : decode cX7_keep 19 = .ok (.getfield 7, 3) := by decide +kernel
theorem dX7_keep_22 : decode cX7_keep 22 = .ok (.iconst 0, 1) := by decide +kernel
theorem dX7_keep_23 : decode cX7_keep 23 = .ok (.iaload, 1) := by decide +kernel
theorem dX7_keep_24 : decode cX7_keep 24 = .ok (.ireturn, 1) := by decide +kernel
theorem dX7_restore_0 : decode cX7_restore 0 = .ok (.aload_n 0, 1) := by decide +kernel
theorem dX7_restore_1 : decode cX7_restore 1 = .ok (.getfield 56, 3) := by decide +kernel
theorem dX7_restore_4 : decode cX7_restore 4 = .ok (.ifCond .ne 6, 3) := by decide +kernel
theorem dX7_restore_7 : decode cX7_restore 7 = .ok (.bipush (-5), 2) := by decide +kernel
theorem dX7_restore_9 : decode cX7_restore 9 = .ok (.ireturn, 1) := by decide +kernel
theorem dX7_restore_10 : decode cX7_restore 10 = .ok (.aload_n 0, 1) := by decide +kernel
theorem dX7_restore_11 : decode cX7_restore 11 = .ok (.invokevirtual 60, 3) := by decide +kernel
theorem dX7_restore_14 : decode cX7_restore 14 = .ok (.aload_n 0, 1) := by decide +kernel
theorem dX7_restore_15 : decode cX7_restore 15 = .ok (.getfield 19, 3) := by decide +kernel
theorem dX7_restore_18 : decode cX7_restore 18 = .ok (.iconst 0, 1) := by decide +kernel
theorem dX7_restore_19 : decode cX7_restore 19 = .ok (.aload_n 0, 1) := by decide +kernel
theorem dX7_restore_20 : decode cX7_restore 20 = .ok (.getfield 7, 3) := by decide +kernel
theorem dX7_restore_23 : decode cX7_restore 23 = .ok (.iconst 0, 1) := by decide +kernel
theorem dX7_restore_24 : decode cX7_restore 24 = .ok (.invokestatic 48, 3) := by decide +kernel
theorem dX7_restore_27 : decode cX7_restore 27 = .ok (.aload_n 0, 1) := by decide +kernel
theorem dX7_restore_28 : decode cX7_restore 28 = .ok (.getfield 7, 3) := by decide +kernel
theorem dX7_restore_31 : decode cX7_restore 31 = .ok (.iconst 0, 1) := by decide +kernel
theorem dX7_restore_32 : decode cX7_restore 32 = .ok (.iaload, 1) := by decide +kernel
theorem dX7_restore_33 : decode cX7_restore 33 = .ok (.ireturn, 1) := by decide +kernel
theorem dX7_whyNotPut_0 : decode cX7_whyNotPut 0 = .ok (.iload_n 1, 1) := by decide +kernel
theorem dX7_whyNotPut_1 : decode cX7_whyNotPut 1 = .ok (.iconst 0, 1) := by decide +kernel
theorem dX7_whyNotPut_2 : decode cX7_whyNotPut 2 = .ok (.sipush 255, 3) := by decide +kernel
theorem dX7_whyNotPut_5 : decode cX7_whyNotPut 5 = .ok (.invokestatic 63, 3) := by decide +kernel
theorem dX7_whyNotPut_8 : decode cX7_whyNotPut 8 = .ok (.ifCond .ne 8, 3) := by decide +kernel
theorem dX7_whyNotPut_11 : decode cX7_whyNotPut 11 = .ok (.bipush (-2), 2) := by decide +kernel
theorem dX7_whyNotPut_13 : decode cX7_whyNotPut 13 = .ok (.goto 35, 3) := by decide +kernel
theorem dX7_whyNotPut_16 : decode cX7_whyNotPut 16 = .ok (.aload_n 0, 1) := by decide +kernel
theorem dX7_whyNotPut_17 : decode cX7_whyNotPut 17 = .ok (.iload_n 1, 1) := by decide +kernel
theorem dX7_whyNotPut_18 : decode cX7_whyNotPut 18 = .ok (.invokevirtual 67, 3) := by decide +kernel
theorem dX7_whyNotPut_21 : decode cX7_whyNotPut 21 = .ok (.bipush (-5), 2) := by decide +kernel
theorem dX7_whyNotPut_23 : decode cX7_whyNotPut 23 = .ok (.if_icmp .eq 8, 3) := by decide +kernel
theorem dX7_whyNotPut_26 : decode cX7_whyNotPut 26 = .ok (.bipush (-4), 2) := by decide +kernel
theorem dX7_whyNotPut_28 : decode cX7_whyNotPut 28 = .ok (.goto 20, 3) := by decide +kernel
theorem dX7_whyNotPut_31 : decode cX7_whyNotPut 31 = .ok (.aload_n 0, 1) := by decide +kernel
theorem dX7_whyNotPut_32 : decode cX7_whyNotPut 32 = .ok (.getfield 7, 3) := by decide +kernel
theorem dX7_whyNotPut_35 : decode cX7_whyNotPut 35 = .ok (.iconst 0, 1) := by decide +kernel
theorem dX7_whyNotPut_36 : decode cX7_whyNotPut 36 = .ok (.iaload, 1) := by decide +kernel
theorem dX7_whyNotPut_37 : decode cX7_whyNotPut 37 = .ok (.bipush 20, 2) := by decide +kernel
theorem dX7_whyNotPut_39 : decode cX7_whyNotPut 39 = .ok (.if_icmp .ne 8, 3) := by decide +kernel
theorem dX7_whyNotPut_42 : decode cX7_whyNotPut 42 = .ok (.bipush (-3), 2) := by decide +kernel
theorem dX7_whyNotPut_44 : decode cX7_whyNotPut 44 = .ok (.goto 4, 3) := by decide +kernel
theorem dX7_whyNotPut_47 : decode cX7_whyNotPut 47 = .ok (.iconst 0, 1) := by decide +kernel
theorem dX7_whyNotPut_48 : decode cX7_whyNotPut 48 = .ok (.ireturn, 1) := by decide +kernel
theorem dX7_putNow_0 : decode cX7_putNow 0 = .ok (.aload_n 0, 1) := by decide +kernel
theorem dX7_putNow_1 : decode cX7_putNow 1 = .ok (.getfield 7, 3) := by decide +kernel
theorem dX7_putNow_4 : decode cX7_putNow 4 = .ok (.iconst 0, 1) := by decide +kernel
theorem dX7_putNow_5 : decode cX7_putNow 5 = .ok (.iaload, 1) := by decide +kernel
theorem dX7_putNow_6 : decode cX7_putNow 6 = .ok (.istore_n 2, 1) := by decide +kernel
theorem dX7_putNow_7 : decode cX7_putNow 7 = .ok (.iload_n 2, 1) := by decide +kernel
theorem dX7_putNow_8 : decode cX7_putNow 8 = .ok (.ifCond .le 48, 3) := by decide +kernel
theorem dX7_putNow_11 : decode cX7_putNow 11 = .ok (.aload_n 0, 1) := by decide +kernel
theorem dX7_putNow_12 : decode cX7_putNow 12 = .ok (.iload_n 2, 1) := by decide +kernel
theorem dX7_putNow_13 : decode cX7_putNow 13 = .ok (.iconst 1, 1) := by decide +kernel
theorem dX7_putNow_14 : decode cX7_putNow 14 = .ok (.isub, 1) := by decide +kernel
theorem dX7_putNow_15 : decode cX7_putNow 15 = .ok (.iconst 0, 1) := by decide +kernel
theorem dX7_putNow_16 : decode cX7_putNow 16 = .ok (.invokevirtual 40, 3) := by decide +kernel
theorem dX7_putNow_19 : decode cX7_putNow 19 = .ok (.iload_n 1, 1) := by decide +kernel
theorem dX7_putNow_20 : decode cX7_putNow 20 = .ok (.if_icmp .le 36, 3) := by decide +kernel
theorem dX7_putNow_23 : decode cX7_putNow 23 = .ok (.iconst 0, 1) := by decide +kernel
theorem dX7_putNow_24 : decode cX7_putNow 24 = .ok (.istore_n 3, 1) := by decide +kernel
theorem dX7_putNow_25 : decode cX7_putNow 25 = .ok (.iload_n 3, 1) := by decide +kernel
theorem dX7_putNow_26 : decode cX7_putNow 26 = .ok (.iconst 4, 1) := by decide +kernel
theorem dX7_putNow_27 : decode cX7_putNow 27 = .ok (.if_icmp .ge 23, 3) := by decide +kernel
theorem dX7_putNow_30 : decode cX7_putNow 30 = .ok (.aload_n 0, 1) := by decide +kernel
theorem dX7_putNow_31 : decode cX7_putNow 31 = .ok (.iload_n 2, 1) := by decide +kernel
theorem dX7_putNow_32 : decode cX7_putNow 32 = .ok (.iload_n 3, 1) := by decide +kernel
theorem dX7_putNow_33 : decode cX7_putNow 33 = .ok (.aload_n 0, 1) := by decide +kernel
theorem dX7_putNow_34 : decode cX7_putNow 34 = .ok (.iload_n 2, 1) := by decide +kernel
theorem dX7_putNow_35 : decode cX7_putNow 35 = .ok (.iconst 1, 1) := by decide +kernel
theorem dX7_putNow_36 : decode cX7_putNow 36 = .ok (.isub, 1) := by decide +kernel
theorem dX7_putNow_37 : decode cX7_putNow 37 = .ok (.iload_n 3, 1) := by decide +kernel
theorem dX7_putNow_38 : decode cX7_putNow 38 = .ok (.invokevirtual 40, 3) := by decide +kernel
theorem dX7_putNow_41 : decode cX7_putNow 41 = .ok (.invokevirtual 71, 3) := by decide +kernel
theorem dX7_putNow_44 : decode cX7_putNow 44 = .ok (.iinc 3 1, 3) := by decide +kernel
theorem dX7_putNow_47 : decode cX7_putNow 47 = .ok (.goto (-22), 3) := by decide +kernel
theorem dX7_putNow_50 : decode cX7_putNow 50 = .ok (.iinc 2 (-1), 3) := by decide +kernel
theorem dX7_putNow_53 : decode cX7_putNow 53 = .ok (.goto (-46), 3) := by decide +kernel
theorem dX7_putNow_56 : decode cX7_putNow 56 = .ok (.aload_n 0, 1) := by decide +kernel
theorem dX7_putNow_57 : decode cX7_putNow 57 = .ok (.iload_n 2, 1) := by decide +kernel
theorem dX7_putNow_58 : decode cX7_putNow 58 = .ok (.iconst 0, 1) := by decide +kernel
theorem dX7_putNow_59 : decode cX7_putNow 59 = .ok (.iload_n 1, 1) := by decide +kernel
theorem dX7_putNow_60 : decode cX7_putNow 60 = .ok (.invokevirtual 71, 3) := by decide +kernel
theorem dX7_putNow_63 : decode cX7_putNow 63 = .ok (.aload_n 0, 1) := by decide +kernel
theorem dX7_putNow_64 : decode cX7_putNow 64 = .ok (.iload_n 2, 1) := by decide +kernel
theorem dX7_putNow_65 : decode cX7_putNow 65 = .ok (.iconst 1, 1) := by decide +kernel
theorem dX7_putNow_66 : decode cX7_putNow 66 = .ok (.iconst 1, 1) := by decide +kernel
theorem dX7_putNow_67 : decode cX7_putNow 67 = .ok (.invokevirtual 71, 3) := by decide +kernel
theorem dX7_putNow_70 : decode cX7_putNow 70 = .ok (.aload_n 0, 1) := by decide +kernel
theorem dX7_putNow_71 : decode cX7_putNow 71 = .ok (.iload_n 2, 1) := by decide +kernel
theorem dX7_putNow_72 : decode cX7_putNow 72 = .ok (.iconst 2, 1) := by decide +kernel
theorem dX7_putNow_73 : decode cX7_putNow 73 = .ok (.iconst 0, 1) := by decide +kernel
theorem dX7_putNow_74 : decode cX7_putNow 74 = .ok (.invokevirtual 71, 3) := by decide +kernel
theorem dX7_putNow_77 : decode cX7_putNow 77 = .ok (.aload_n 0, 1) := by decide +kernel
theorem dX7_putNow_78 : decode cX7_putNow 78 = .ok (.iload_n 2, 1) := by decide +kernel
theorem dX7_putNow_79 : decode cX7_putNow 79 = .ok (.iconst 3, 1) := by decide +kernel
theorem dX7_putNow_80 : decode cX7_putNow 80 = .ok (.iconst 0, 1) := by decide +kernel
theorem dX7_putNow_81 : decode cX7_putNow 81 = .ok (.invokevirtual 71, 3) := by decide +kernel
theorem dX7_putNow_84 : decode cX7_putNow 84 = .ok (.aload_n 0, 1) := by decide +kernel
theorem dX7_putNow_85 : decode cX7_putNow 85 = .ok (.getfield 7, 3) := by decide +kernel
theorem dX7_putNow_88 : decode cX7_putNow 88 = .ok (.iconst 0, 1) := by decide +kernel
theorem dX7_putNow_89 : decode cX7_putNow 89 = .ok (.dup2, 1) := by decide +kernel
theorem dX7_putNow_90 : decode cX7_putNow 90 = .ok (.iaload, 1) := by decide +kernel
theorem dX7_putNow_91 : decode cX7_putNow 91 = .ok (.iconst 1, 1) := by decide +kernel
theorem dX7_putNow_92 : decode cX7_putNow 92 = .ok (.iadd, 1) := by decide +kernel
theorem dX7_putNow_93 : decode cX7_putNow 93 = .ok (.iastore, 1) := by decide +kernel
theorem dX7_putNow_94 : decode cX7_putNow 94 = .ok (.return_, 1) := by decide +kernel
theorem dX7_takeNow_0 : decode cX7_takeNow 0 = .ok (.aload_n 0, 1) := by decide +kernel
theorem dX7_takeNow_1 : decode cX7_takeNow 1 = .ok (.getfield 7, 3) := by decide +kernel
theorem dX7_takeNow_4 : decode cX7_takeNow 4 = .ok (.iconst 0, 1) := by decide +kernel
theorem dX7_takeNow_5 : decode cX7_takeNow 5 = .ok (.dup2, 1) := by decide +kernel
theorem dX7_takeNow_6 : decode cX7_takeNow 6 = .ok (.iaload, 1) := by decide +kernel
theorem dX7_takeNow_7 : decode cX7_takeNow 7 = .ok (.iconst 1, 1) := by decide +kernel
theorem dX7_takeNow_8 : decode cX7_takeNow 8 = .ok (.isub, 1) := by decide +kernel
theorem dX7_takeNow_9 : decode cX7_takeNow 9 = .ok (.iastore, 1) := by decide +kernel
theorem dX7_takeNow_10 : decode cX7_takeNow 10 = .ok (.iconst 4, 1) := by decide +kernel
theorem dX7_takeNow_11 : decode cX7_takeNow 11 = .ok (.iload_n 1, 1) := by decide +kernel
theorem dX7_takeNow_12 : decode cX7_takeNow 12 = .ok (.imul, 1) := by decide +kernel
theorem dX7_takeNow_13 : decode cX7_takeNow 13 = .ok (.istore_n 2, 1) := by decide +kernel
theorem dX7_takeNow_14 : decode cX7_takeNow 14 = .ok (.iload_n 2, 1) := by decide +kernel
theorem dX7_takeNow_15 : decode cX7_takeNow 15 = .ok (.iconst 4, 1) := by decide +kernel
theorem dX7_takeNow_16 : decode cX7_takeNow 16 = .ok (.aload_n 0, 1) := by decide +kernel
theorem dX7_takeNow_17 : decode cX7_takeNow 17 = .ok (.getfield 7, 3) := by decide +kernel
theorem dX7_takeNow_20 : decode cX7_takeNow 20 = .ok (.iconst 0, 1) := by decide +kernel
theorem dX7_takeNow_21 : decode cX7_takeNow 21 = .ok (.iaload, 1) := by decide +kernel
theorem dX7_takeNow_22 : decode cX7_takeNow 22 = .ok (.imul, 1) := by decide +kernel
theorem dX7_takeNow_23 : decode cX7_takeNow 23 = .ok (.if_icmp .ge 29, 3) := by decide +kernel
theorem dX7_takeNow_26 : decode cX7_takeNow 26 = .ok (.aload_n 0, 1) := by decide +kernel
theorem dX7_takeNow_27 : decode cX7_takeNow 27 = .ok (.getfield 7, 3) := by decide +kernel
theorem dX7_takeNow_30 : decode cX7_takeNow 30 = .ok (.bipush 13, 2) := by decide +kernel
theorem dX7_takeNow_32 : decode cX7_takeNow 32 = .ok (.iload_n 2, 1) := by decide +kernel
theorem dX7_takeNow_33 : decode cX7_takeNow 33 = .ok (.iadd, 1) := by decide +kernel
theorem dX7_takeNow_34 : decode cX7_takeNow 34 = .ok (.aload_n 0, 1) := by decide +kernel
theorem dX7_takeNow_35 : decode cX7_takeNow 35 = .ok (.getfield 7, 3) := by decide +kernel
theorem dX7_takeNow_38 : decode cX7_takeNow 38 = .ok (.bipush 13, 2) := by decide +kernel
theorem dX7_takeNow_40 : decode cX7_takeNow 40 = .ok (.iload_n 2, 1) := by decide +kernel
theorem dX7_takeNow_41 : decode cX7_takeNow 41 = .ok (.iadd, 1) := by decide +kernel
theorem dX7_takeNow_42 : decode cX7_takeNow 42 = .ok (.iconst 4, 1) := by decide +kernel
theorem dX7_takeNow_43 : decode cX7_takeNow 43 = .ok (.iadd, 1) := by decide +kernel
theorem dX7_takeNow_44 : decode cX7_takeNow 44 = .ok (.iaload, 1) := by decide +kernel
theorem dX7_takeNow_45 : decode cX7_takeNow 45 = .ok (.iastore, 1) := by decide +kernel
theorem dX7_takeNow_46 : decode cX7_takeNow 46 = .ok (.iinc 2 1, 3) := by decide +kernel
theorem dX7_takeNow_49 : decode cX7_takeNow 49 = .ok (.goto (-35), 3) := by decide +kernel
theorem dX7_takeNow_52 : decode cX7_takeNow 52 = .ok (.return_, 1) := by decide +kernel
theorem dX7_put_0 : decode cX7_put 0 = .ok (.aload_n 0, 1) := by decide +kernel
theorem dX7_put_1 : decode cX7_put 1 = .ok (.iload_n 1, 1) := by decide +kernel
theorem dX7_put_2 : decode cX7_put 2 = .ok (.invokevirtual 75, 3) := by decide +kernel
theorem dX7_put_5 : decode cX7_put 5 = .ok (.istore_n 2, 1) := by decide +kernel
theorem dX7_put_6 : decode cX7_put 6 = .ok (.iload_n 2, 1) := by decide +kernel
theorem dX7_put_7 : decode cX7_put 7 = .ok (.ifCond .ge 5, 3) := by decide +kernel
theorem dX7_put_10 : decode cX7_put 10 = .ok (.iload_n 2, 1) := by decide +kernel
theorem dX7_put_11 : decode cX7_put 11 = .ok (.ireturn, 1) := by decide +kernel
theorem dX7_put_12 : decode cX7_put 12 = .ok (.aload_n 0, 1) := by decide +kernel
theorem dX7_put_13 : decode cX7_put 13 = .ok (.invokevirtual 60, 3) := by decide +kernel
theorem dX7_put_16 : decode cX7_put 16 = .ok (.aload_n 0, 1) := by decide +kernel
theorem dX7_put_17 : decode cX7_put 17 = .ok (.iload_n 1, 1) := by decide +kernel
theorem dX7_put_18 : decode cX7_put 18 = .ok (.invokevirtual 78, 3) := by decide +kernel
theorem dX7_put_21 : decode cX7_put 21 = .ok (.aload_n 0, 1) := by decide +kernel
theorem dX7_put_22 : decode cX7_put 22 = .ok (.getfield 7, 3) := by decide +kernel
theorem dX7_put_25 : decode cX7_put 25 = .ok (.iconst 0, 1) := by decide +kernel
theorem dX7_put_26 : decode cX7_put 26 = .ok (.iaload, 1) := by decide +kernel
theorem dX7_put_27 : decode cX7_put 27 = .ok (.ireturn, 1) := by decide +kernel
theorem dX7_take_0 : decode cX7_take 0 = .ok (.aload_n 0, 1) := by decide +kernel
theorem dX7_take_1 : decode cX7_take 1 = .ok (.iload_n 1, 1) := by decide +kernel
theorem dX7_take_2 : decode cX7_take 2 = .ok (.invokevirtual 67, 3) := by decide +kernel
theorem dX7_take_5 : decode cX7_take 5 = .ok (.istore_n 2, 1) := by decide +kernel
theorem dX7_take_6 : decode cX7_take 6 = .ok (.iload_n 2, 1) := by decide +kernel
theorem dX7_take_7 : decode cX7_take 7 = .ok (.bipush (-5), 2) := by decide +kernel
theorem dX7_take_9 : decode cX7_take 9 = .ok (.if_icmp .ne 5, 3) := by decide +kernel
theorem dX7_take_12 : decode cX7_take 12 = .ok (.iconst (-1), 1) := by decide +kernel
theorem dX7_take_13 : decode cX7_take 13 = .ok (.ireturn, 1) := by decide +kernel
theorem dX7_take_14 : decode cX7_take 14 = .ok (.aload_n 0, 1) := by decide +kernel
theorem dX7_take_15 : decode cX7_take 15 = .ok (.invokevirtual 60, 3) := by decide +kernel
theorem dX7_take_18 : decode cX7_take 18 = .ok (.aload_n 0, 1) := by decide +kernel
theorem dX7_take_19 : decode cX7_take 19 = .ok (.iload_n 2, 1) := by decide +kernel
theorem dX7_take_20 : decode cX7_take 20 = .ok (.invokevirtual 82, 3) := by decide +kernel
theorem dX7_take_23 : decode cX7_take 23 = .ok (.aload_n 0, 1) := by decide +kernel
theorem dX7_take_24 : decode cX7_take 24 = .ok (.getfield 7, 3) := by decide +kernel
theorem dX7_take_27 : decode cX7_take 27 = .ok (.iconst 0, 1) := by decide +kernel
theorem dX7_take_28 : decode cX7_take 28 = .ok (.iaload, 1) := by decide +kernel
theorem dX7_take_29 : decode cX7_take 29 = .ok (.ireturn, 1) := by decide +kernel
theorem dX7_awake_0 : decode cX7_awake 0 = .ok (.iconst 0, 1) := by decide +kernel
theorem dX7_awake_1 : decode cX7_awake 1 = .ok (.istore_n 1, 1) := by decide +kernel
theorem dX7_awake_2 : decode cX7_awake 2 = .ok (.iconst 0, 1) := by decide +kernel
theorem dX7_awake_3 : decode cX7_awake 3 = .ok (.istore_n 2, 1) := by decide +kernel
theorem dX7_awake_4 : decode cX7_awake 4 = .ok (.iload_n 2, 1) := by decide +kernel
theorem dX7_awake_5 : decode cX7_awake 5 = .ok (.aload_n 0, 1) := by decide +kernel
theorem dX7_awake_6 : decode cX7_awake 6 = .ok (.getfield 7, 3) := by decide +kernel
theorem dX7_awake_9 : decode cX7_awake 9 = .ok (.iconst 0, 1) := by decide +kernel
theorem dX7_awake_10 : decode cX7_awake 10 = .ok (.iaload, 1) := by decide +kernel
theorem dX7_awake_11 : decode cX7_awake 11 = .ok (.if_icmp .ge 18, 3) := by decide +kernel
theorem dX7_awake_14 : decode cX7_awake 14 = .ok (.iload_n 1, 1) := by decide +kernel
theorem dX7_awake_15 : decode cX7_awake 15 = .ok (.aload_n 0, 1) := by decide +kernel
theorem dX7_awake_16 : decode cX7_awake 16 = .ok (.iload_n 2, 1) := by decide +kernel
theorem dX7_awake_17 : decode cX7_awake 17 = .ok (.iconst 1, 1) := by decide +kernel
theorem dX7_awake_18 : decode cX7_awake 18 = .ok (.invokevirtual 40, 3) := by decide +kernel
theorem dX7_awake_21 : decode cX7_awake 21 = .ok (.iadd, 1) := by decide +kernel
theorem dX7_awake_22 : decode cX7_awake 22 = .ok (.istore_n 1, 1) := by decide +kernel
theorem dX7_awake_23 : decode cX7_awake 23 = .ok (.iinc 2 1, 3) := by decide +kernel
theorem dX7_awake_26 : decode cX7_awake 26 = .ok (.goto (-22), 3) := by decide +kernel
theorem dX7_awake_29 : decode cX7_awake 29 = .ok (.iload_n 1, 1) := by decide +kernel
theorem dX7_awake_30 : decode cX7_awake 30 = .ok (.ireturn, 1) := by decide +kernel
theorem dX7_sleep_0 : decode cX7_sleep 0 = .ok (.aload_n 0, 1) := by decide +kernel
theorem dX7_sleep_1 : decode cX7_sleep 1 = .ok (.iload_n 1, 1) := by decide +kernel
theorem dX7_sleep_2 : decode cX7_sleep 2 = .ok (.invokevirtual 67, 3) := by decide +kernel
theorem dX7_sleep_5 : decode cX7_sleep 5 = .ok (.istore_n 2, 1) := by decide +kernel
theorem dX7_sleep_6 : decode cX7_sleep 6 = .ok (.iload_n 2, 1) := by decide +kernel
theorem dX7_sleep_7 : decode cX7_sleep 7 = .ok (.bipush (-5), 2) := by decide +kernel
theorem dX7_sleep_9 : decode cX7_sleep 9 = .ok (.if_icmp .eq 12, 3) := by decide +kernel
theorem dX7_sleep_12 : decode cX7_sleep 12 = .ok (.aload_n 0, 1) := by decide +kernel
theorem dX7_sleep_13 : decode cX7_sleep 13 = .ok (.iload_n 2, 1) := by decide +kernel
theorem dX7_sleep_14 : decode cX7_sleep 14 = .ok (.iconst 1, 1) := by decide +kernel
theorem dX7_sleep_15 : decode cX7_sleep 15 = .ok (.invokevirtual 40, 3) := by decide +kernel
theorem dX7_sleep_18 : decode cX7_sleep 18 = .ok (.ifCond .ne 16, 3) := by decide +kernel
theorem dX7_sleep_21 : decode cX7_sleep 21 = .ok (.iload_n 2, 1) := by decide +kernel
theorem dX7_sleep_22 : decode cX7_sleep 22 = .ok (.bipush (-5), 2) := by decide +kernel
theorem dX7_sleep_24 : decode cX7_sleep 24 = .ok (.if_icmp .ne 7, 3) := by decide +kernel
theorem dX7_sleep_27 : decode cX7_sleep 27 = .ok (.iconst (-1), 1) := by decide +kernel
theorem dX7_sleep_28 : decode cX7_sleep 28 = .ok (.goto 5, 3) := by decide +kernel
theorem dX7_sleep_31 : decode cX7_sleep 31 = .ok (.bipush (-5), 2) := by decide +kernel
theorem dX7_sleep_33 : decode cX7_sleep 33 = .ok (.ireturn, 1) := by decide +kernel
theorem dX7_sleep_34 : decode cX7_sleep 34 = .ok (.aload_n 0, 1) := by decide +kernel
theorem dX7_sleep_35 : decode cX7_sleep 35 = .ok (.invokevirtual 60, 3) := by decide +kernel
theorem dX7_sleep_38 : decode cX7_sleep 38 = .ok (.aload_n 0, 1) := by decide +kernel
theorem dX7_sleep_39 : decode cX7_sleep 39 = .ok (.iload_n 2, 1) := by decide +kernel
theorem dX7_sleep_40 : decode cX7_sleep 40 = .ok (.iconst 1, 1) := by decide +kernel
theorem dX7_sleep_41 : decode cX7_sleep 41 = .ok (.iconst 0, 1) := by decide +kernel
theorem dX7_sleep_42 : decode cX7_sleep 42 = .ok (.invokevirtual 71, 3) := by decide +kernel
theorem dX7_sleep_45 : decode cX7_sleep 45 = .ok (.aload_n 0, 1) := by decide +kernel
theorem dX7_sleep_46 : decode cX7_sleep 46 = .ok (.invokevirtual 85, 3) := by decide +kernel
theorem dX7_sleep_49 : decode cX7_sleep 49 = .ok (.ireturn, 1) := by decide +kernel
theorem dX7_wakeNow_0 : decode cX7_wakeNow 0 = .ok (.iconst 0, 1) := by decide +kernel
theorem dX7_wakeNow_1 : decode cX7_wakeNow 1 = .ok (.istore_n 1, 1) := by decide +kernel
theorem dX7_wakeNow_2 : decode cX7_wakeNow 2 = .ok (.iload_n 1, 1) := by decide +kernel
theorem dX7_wakeNow_3 : decode cX7_wakeNow 3 = .ok (.aload_n 0, 1) := by decide +kernel
theorem dX7_wakeNow_4 : decode cX7_wakeNow 4 = .ok (.getfield 7, 3) := by decide +kernel
theorem dX7_wakeNow_7 : decode cX7_wakeNow 7 = .ok (.iconst 0, 1) := by decide +kernel
theorem dX7_wakeNow_8 : decode cX7_wakeNow 8 = .ok (.iaload, 1) := by decide +kernel
theorem dX7_wakeNow_9 : decode cX7_wakeNow 9 = .ok (.if_icmp .ge 16, 3) := by decide +kernel
theorem dX7_wakeNow_12 : decode cX7_wakeNow 12 = .ok (.aload_n 0, 1) := by decide +kernel
theorem dX7_wakeNow_13 : decode cX7_wakeNow 13 = .ok (.iload_n 1, 1) := by decide +kernel
theorem dX7_wakeNow_14 : decode cX7_wakeNow 14 = .ok (.iconst 1, 1) := by decide +kernel
theorem dX7_wakeNow_15 : decode cX7_wakeNow 15 = .ok (.iconst 1, 1) := by decide +kernel
theorem dX7_wakeNow_16 : decode cX7_wakeNow 16 = .ok (.invokevirtual 71, 3) := by decide +kernel
theorem dX7_wakeNow_19 : decode cX7_wakeNow 19 = .ok (.iinc 1 1, 3) := by decide +kernel
theorem dX7_wakeNow_22 : decode cX7_wakeNow 22 = .ok (.goto (-20), 3) := by decide +kernel
theorem dX7_wakeNow_25 : decode cX7_wakeNow 25 = .ok (.return_, 1) := by decide +kernel
theorem dX7_wakeAll_0 : decode cX7_wakeAll 0 = .ok (.aload_n 0, 1) := by decide +kernel
theorem dX7_wakeAll_1 : decode cX7_wakeAll 1 = .ok (.getfield 7, 3) := by decide +kernel
theorem dX7_wakeAll_4 : decode cX7_wakeAll 4 = .ok (.iconst 0, 1) := by decide +kernel
theorem dX7_wakeAll_5 : decode cX7_wakeAll 5 = .ok (.iaload, 1) := by decide +kernel
theorem dX7_wakeAll_6 : decode cX7_wakeAll 6 = .ok (.aload_n 0, 1) := by decide +kernel
theorem dX7_wakeAll_7 : decode cX7_wakeAll 7 = .ok (.invokevirtual 85, 3) := by decide +kernel
theorem dX7_wakeAll_10 : decode cX7_wakeAll 10 = .ok (.isub, 1) := by decide +kernel
theorem dX7_wakeAll_11 : decode cX7_wakeAll 11 = .ok (.istore_n 1, 1) := by decide +kernel
theorem dX7_wakeAll_12 : decode cX7_wakeAll 12 = .ok (.iload_n 1, 1) := by decide +kernel
theorem dX7_wakeAll_13 : decode cX7_wakeAll 13 = .ok (.ifCond .ne 6, 3) := by decide +kernel
theorem dX7_wakeAll_16 : decode cX7_wakeAll 16 = .ok (.bipush (-5), 2) := by decide +kernel
theorem dX7_wakeAll_18 : decode cX7_wakeAll 18 = .ok (.ireturn, 1) := by decide +kernel
theorem dX7_wakeAll_19 : decode cX7_wakeAll 19 = .ok (.aload_n 0, 1) := by decide +kernel
theorem dX7_wakeAll_20 : decode cX7_wakeAll 20 = .ok (.invokevirtual 60, 3) := by decide +kernel
theorem dX7_wakeAll_23 : decode cX7_wakeAll 23 = .ok (.aload_n 0, 1) := by decide +kernel
theorem dX7_wakeAll_24 : decode cX7_wakeAll 24 = .ok (.invokevirtual 89, 3) := by decide +kernel
theorem dX7_wakeAll_27 : decode cX7_wakeAll 27 = .ok (.iload_n 1, 1) := by decide +kernel
theorem dX7_wakeAll_28 : decode cX7_wakeAll 28 = .ok (.ireturn, 1) := by decide +kernel
theorem dX7_leave_0 : decode cX7_leave 0 = .ok (.aload_n 0, 1) := by decide +kernel
theorem dX7_leave_1 : decode cX7_leave 1 = .ok (.iload_n 1, 1) := by decide +kernel
theorem dX7_leave_2 : decode cX7_leave 2 = .ok (.invokevirtual 67, 3) := by decide +kernel
theorem dX7_leave_5 : decode cX7_leave 5 = .ok (.istore_n 3, 1) := by decide +kernel
theorem dX7_leave_6 : decode cX7_leave 6 = .ok (.iload_n 3, 1) := by decide +kernel
theorem dX7_leave_7 : decode cX7_leave 7 = .ok (.bipush (-5), 2) := by decide +kernel
theorem dX7_leave_9 : decode cX7_leave 9 = .ok (.if_icmp .ne 5, 3) := by decide +kernel
theorem dX7_leave_12 : decode cX7_leave 12 = .ok (.iconst (-1), 1) := by decide +kernel
theorem dX7_leave_13 : decode cX7_leave 13 = .ok (.ireturn, 1) := by decide +kernel
theorem dX7_leave_14 : decode cX7_leave 14 = .ok (.iload_n 2, 1) := by decide +kernel
theorem dX7_leave_15 : decode cX7_leave 15 = .ok (.iconst 0, 1) := by decide +kernel
theorem dX7_leave_16 : decode cX7_leave 16 = .ok (.sipush 200, 3) := by decide +kernel
theorem dX7_leave_19 : decode cX7_leave 19 = .ok (.invokestatic 63, 3) := by decide +kernel
theorem dX7_leave_22 : decode cX7_leave 22 = .ok (.ifCond .ne 6, 3) := by decide +kernel
theorem dX7_leave_25 : decode cX7_leave 25 = .ok (.bipush (-2), 2) := by decide +kernel
theorem dX7_leave_27 : decode cX7_leave 27 = .ok (.ireturn, 1) := by decide +kernel
theorem dX7_leave_28 : decode cX7_leave 28 = .ok (.aload_n 0, 1) := by decide +kernel
theorem dX7_leave_29 : decode cX7_leave 29 = .ok (.iload_n 3, 1) := by decide +kernel
theorem dX7_leave_30 : decode cX7_leave 30 = .ok (.iconst 2, 1) := by decide +kernel
theorem dX7_leave_31 : decode cX7_leave 31 = .ok (.invokevirtual 40, 3) := by decide +kernel
theorem dX7_leave_34 : decode cX7_leave 34 = .ok (.istore 4, 2) := by decide +kernel
theorem dX7_leave_36 : decode cX7_leave 36 = .ok (.iload 4, 2) := by decide +kernel
theorem dX7_leave_38 : decode cX7_leave 38 = .ok (.iload_n 2, 1) := by decide +kernel
theorem dX7_leave_39 : decode cX7_leave 39 = .ok (.if_icmp .ne 6, 3) := by decide +kernel
theorem dX7_leave_42 : decode cX7_leave 42 = .ok (.bipush (-5), 2) := by decide +kernel
theorem dX7_leave_44 : decode cX7_leave 44 = .ok (.ireturn, 1) := by decide +kernel
theorem dX7_leave_45 : decode cX7_leave 45 = .ok (.aload_n 0, 1) := by decide +kernel
theorem dX7_leave_46 : decode cX7_leave 46 = .ok (.invokevirtual 60, 3) := by decide +kernel
theorem dX7_leave_49 : decode cX7_leave 49 = .ok (.aload_n 0, 1) := by decide +kernel
theorem dX7_leave_50 : decode cX7_leave 50 = .ok (.iload_n 3, 1) := by decide +kernel
theorem dX7_leave_51 : decode cX7_leave 51 = .ok (.iconst 2, 1) := by decide +kernel
theorem dX7_leave_52 : decode cX7_leave 52 = .ok (.iload_n 2, 1) := by decide +kernel
theorem dX7_leave_53 : decode cX7_leave 53 = .ok (.invokevirtual 71, 3) := by decide +kernel
theorem dX7_leave_56 : decode cX7_leave 56 = .ok (.iload 4, 2) := by decide +kernel
theorem dX7_leave_58 : decode cX7_leave 58 = .ok (.ireturn, 1) := by decide +kernel
theorem dX7_set_0 : decode cX7_set 0 = .ok (.iload_n 1, 1) := by decide +kernel
theorem dX7_set_1 : decode cX7_set 1 = .ok (.iconst 0, 1) := by decide +kernel
theorem dX7_set_2 : decode cX7_set 2 = .ok (.iconst 1, 1) := by decide +kernel
theorem dX7_set_3 : decode cX7_set 3 = .ok (.invokestatic 63, 3) := by decide +kernel
theorem dX7_set_6 : decode cX7_set 6 = .ok (.ifCond .ne 5, 3) := by decide +kernel
theorem dX7_set_9 : decode cX7_set 9 = .ok (.iconst (-1), 1) := by decide +kernel
theorem dX7_set_10 : decode cX7_set 10 = .ok (.ireturn, 1) := by decide +kernel
theorem dX7_set_11 : decode cX7_set 11 = .ok (.iload_n 2, 1) := by decide +kernel
theorem dX7_set_12 : decode cX7_set 12 = .ok (.iconst 0, 1) := by decide +kernel
theorem dX7_set_13 : decode cX7_set 13 = .ok (.iconst 1, 1) := by decide +kernel
theorem dX7_set_14 : decode cX7_set 14 = .ok (.iload_n 1, 1) := by decide +kernel
theorem dX7_set_15 : decode cX7_set 15 = .ok (.iadd, 1) := by decide +kernel
theorem dX7_set_16 : decode cX7_set 16 = .ok (.invokestatic 63, 3) := by decide +kernel
theorem dX7_set_19 : decode cX7_set 19 = .ok (.ifCond .ne 6, 3) := by decide +kernel
theorem dX7_set_22 : decode cX7_set 22 = .ok (.bipush (-2), 2) := by decide +kernel
theorem dX7_set_24 : decode cX7_set 24 = .ok (.ireturn, 1) := by decide +kernel
theorem dX7_set_25 : decode cX7_set 25 = .ok (.aload_n 0, 1) := by decide +kernel
theorem dX7_set_26 : decode cX7_set 26 = .ok (.getfield 7, 3) := by decide +kernel
theorem dX7_set_29 : decode cX7_set 29 = .ok (.iconst 2, 1) := by decide +kernel
theorem dX7_set_30 : decode cX7_set 30 = .ok (.iload_n 1, 1) := by decide +kernel
theorem dX7_set_31 : decode cX7_set 31 = .ok (.iadd, 1) := by decide +kernel
theorem dX7_set_32 : decode cX7_set 32 = .ok (.iaload, 1) := by decide +kernel
theorem dX7_set_33 : decode cX7_set 33 = .ok (.istore_n 3, 1) := by decide +kernel
theorem dX7_set_34 : decode cX7_set 34 = .ok (.iload_n 3, 1) := by decide +kernel
theorem dX7_set_35 : decode cX7_set 35 = .ok (.iload_n 2, 1) := by decide +kernel
theorem dX7_set_36 : decode cX7_set 36 = .ok (.if_icmp .ne 6, 3) := by decide +kernel
theorem dX7_set_39 : decode cX7_set 39 = .ok (.bipush (-5), 2) := by decide +kernel
theorem dX7_set_41 : decode cX7_set 41 = .ok (.ireturn, 1) := by decide +kernel
theorem dX7_set_42 : decode cX7_set 42 = .ok (.aload_n 0, 1) := by decide +kernel
theorem dX7_set_43 : decode cX7_set 43 = .ok (.invokevirtual 60, 3) := by decide +kernel
theorem dX7_set_46 : decode cX7_set 46 = .ok (.aload_n 0, 1) := by decide +kernel
theorem dX7_set_47 : decode cX7_set 47 = .ok (.getfield 7, 3) := by decide +kernel
theorem dX7_set_50 : decode cX7_set 50 = .ok (.iconst 2, 1) := by decide +kernel
theorem dX7_set_51 : decode cX7_set 51 = .ok (.iload_n 1, 1) := by decide +kernel
theorem dX7_set_52 : decode cX7_set 52 = .ok (.iadd, 1) := by decide +kernel
theorem dX7_set_53 : decode cX7_set 53 = .ok (.iload_n 2, 1) := by decide +kernel
theorem dX7_set_54 : decode cX7_set 54 = .ok (.iastore, 1) := by decide +kernel
theorem dX7_set_55 : decode cX7_set 55 = .ok (.iload_n 3, 1) := by decide +kernel
theorem dX7_set_56 : decode cX7_set 56 = .ok (.ireturn, 1) := by decide +kernel
theorem dX7_shuffle_0 : decode cX7_shuffle 0 = .ok (.iload_n 1, 1) := by decide +kernel
theorem dX7_shuffle_1 : decode cX7_shuffle 1 = .ok (.ifCond .ge 6, 3) := by decide +kernel
theorem dX7_shuffle_4 : decode cX7_shuffle 4 = .ok (.bipush (-2), 2) := by decide +kernel
theorem dX7_shuffle_6 : decode cX7_shuffle 6 = .ok (.ireturn, 1) := by decide +kernel
theorem dX7_shuffle_7 : decode cX7_shuffle 7 = .ok (.aload_n 0, 1) := by decide +kernel
theorem dX7_shuffle_8 : decode cX7_shuffle 8 = .ok (.getfield 7, 3) := by decide +kernel
theorem dX7_shuffle_11 : decode cX7_shuffle 11 = .ok (.iconst 4, 1) := by decide +kernel
theorem dX7_shuffle_12 : decode cX7_shuffle 12 = .ok (.iaload, 1) := by decide +kernel
theorem dX7_shuffle_13 : decode cX7_shuffle 13 = .ok (.istore_n 2, 1) := by decide +kernel
theorem dX7_shuffle_14 : decode cX7_shuffle 14 = .ok (.iload_n 2, 1) := by decide +kernel
theorem dX7_shuffle_15 : decode cX7_shuffle 15 = .ok (.iload_n 1, 1) := by decide +kernel
theorem dX7_shuffle_16 : decode cX7_shuffle 16 = .ok (.if_icmp .ne 6, 3) := by decide +kernel
theorem dX7_shuffle_19 : decode cX7_shuffle 19 = .ok (.bipush (-5), 2) := by decide +kernel
theorem dX7_shuffle_21 : decode cX7_shuffle 21 = .ok (.ireturn, 1) := by decide +kernel
theorem dX7_shuffle_22 : decode cX7_shuffle 22 = .ok (.aload_n 0, 1) := by decide +kernel
theorem dX7_shuffle_23 : decode cX7_shuffle 23 = .ok (.invokevirtual 60, 3) := by decide +kernel
theorem dX7_shuffle_26 : decode cX7_shuffle 26 = .ok (.aload_n 0, 1) := by decide +kernel
theorem dX7_shuffle_27 : decode cX7_shuffle 27 = .ok (.getfield 7, 3) := by decide +kernel
theorem dX7_shuffle_30 : decode cX7_shuffle 30 = .ok (.iconst 4, 1) := by decide +kernel
theorem dX7_shuffle_31 : decode cX7_shuffle 31 = .ok (.iload_n 1, 1) := by decide +kernel
theorem dX7_shuffle_32 : decode cX7_shuffle 32 = .ok (.iastore, 1) := by decide +kernel
theorem dX7_shuffle_33 : decode cX7_shuffle 33 = .ok (.iload_n 2, 1) := by decide +kernel
theorem dX7_shuffle_34 : decode cX7_shuffle 34 = .ok (.ireturn, 1) := by decide +kernel
theorem dX7_forget_0 : decode cX7_forget 0 = .ok (.aload_n 0, 1) := by decide +kernel
theorem dX7_forget_1 : decode cX7_forget 1 = .ok (.getfield 7, 3) := by decide +kernel
theorem dX7_forget_4 : decode cX7_forget 4 = .ok (.iconst 1, 1) := by decide +kernel
theorem dX7_forget_5 : decode cX7_forget 5 = .ok (.iaload, 1) := by decide +kernel
theorem dX7_forget_6 : decode cX7_forget 6 = .ok (.istore_n 1, 1) := by decide +kernel
theorem dX7_forget_7 : decode cX7_forget 7 = .ok (.iload_n 1, 1) := by decide +kernel
theorem dX7_forget_8 : decode cX7_forget 8 = .ok (.ifCond .ne 6, 3) := by decide +kernel
theorem dX7_forget_11 : decode cX7_forget 11 = .ok (.bipush (-5), 2) := by decide +kernel
theorem dX7_forget_13 : decode cX7_forget 13 = .ok (.ireturn, 1) := by decide +kernel
theorem dX7_forget_14 : decode cX7_forget 14 = .ok (.aload_n 0, 1) := by decide +kernel
theorem dX7_forget_15 : decode cX7_forget 15 = .ok (.invokevirtual 60, 3) := by decide +kernel
theorem dX7_forget_18 : decode cX7_forget 18 = .ok (.aload_n 0, 1) := by decide +kernel
theorem dX7_forget_19 : decode cX7_forget 19 = .ok (.getfield 7, 3) := by decide +kernel
theorem dX7_forget_22 : decode cX7_forget 22 = .ok (.iconst 1, 1) := by decide +kernel
theorem dX7_forget_23 : decode cX7_forget 23 = .ok (.iconst 0, 1) := by decide +kernel
theorem dX7_forget_24 : decode cX7_forget 24 = .ok (.iastore, 1) := by decide +kernel
theorem dX7_forget_25 : decode cX7_forget 25 = .ok (.iload_n 1, 1) := by decide +kernel
theorem dX7_forget_26 : decode cX7_forget 26 = .ok (.ireturn, 1) := by decide +kernel
theorem dX7_tell_0 : decode cX7_tell 0 = .ok (.aload_n 0, 1) := by decide +kernel
theorem dX7_tell_1 : decode cX7_tell 1 = .ok (.getfield 7, 3) := by decide +kernel
theorem dX7_tell_4 : decode cX7_tell 4 = .ok (.iconst 1, 1) := by decide +kernel
theorem dX7_tell_5 : decode cX7_tell 5 = .ok (.iaload, 1) := by decide +kernel
theorem dX7_tell_6 : decode cX7_tell 6 = .ok (.sipush 200, 3) := by decide +kernel
theorem dX7_tell_9 : decode cX7_tell 9 = .ok (.if_icmp .ne 48, 3) := by decide +kernel
theorem dX7_tell_12 : decode cX7_tell 12 = .ok (.iconst 0, 1) := by decide +kernel
theorem dX7_tell_13 : decode cX7_tell 13 = .ok (.istore_n 2, 1) := by decide +kernel
theorem dX7_tell_14 : decode cX7_tell 14 = .ok (.iload_n 2, 1) := by decide +kernel
theorem dX7_tell_15 : decode cX7_tell 15 = .ok (.sipush 199, 3) := by decide +kernel
theorem dX7_tell_18 : decode cX7_tell 18 = .ok (.if_icmp .ge 29, 3) := by decide +kernel
theorem dX7_tell_21 : decode cX7_tell 21 = .ok (.aload_n 0, 1) := by decide +kernel
theorem dX7_tell_22 : decode cX7_tell 22 = .ok (.getfield 7, 3) := by decide +kernel
theorem dX7_tell_25 : decode cX7_tell 25 = .ok (.bipush 93, 2) := by decide +kernel
theorem dX7_tell_27 : decode cX7_tell 27 = .ok (.iload_n 2, 1) := by decide +kernel
theorem dX7_tell_28 : decode cX7_tell 28 = .ok (.iadd, 1) := by decide +kernel
theorem dX7_tell_29 : decode cX7_tell 29 = .ok (.aload_n 0, 1) := by decide +kernel
theorem dX7_tell_30 : decode cX7_tell 30 = .ok (.getfield 7, 3) := by decide +kernel
theorem dX7_tell_33 : decode cX7_tell 33 = .ok (.bipush 93, 2) := by decide +kernel
theorem dX7_tell_35 : decode cX7_tell 35 = .ok (.iload_n 2, 1) := by decide +kernel
theorem dX7_tell_36 : decode cX7_tell 36 = .ok (.iadd, 1) := by decide +kernel
theorem dX7_tell_37 : decode cX7_tell 37 = .ok (.iconst 1, 1) := by decide +kernel
theorem dX7_tell_38 : decode cX7_tell 38 = .ok (.iadd, 1) := by decide +kernel
theorem dX7_tell_39 : decode cX7_tell 39 = .ok (.iaload, 1) := by decide +kernel
theorem dX7_tell_40 : decode cX7_tell 40 = .ok (.iastore, 1) := by decide +kernel
theorem dX7_tell_41 : decode cX7_tell 41 = .ok (.iinc 2 1, 3) := by decide +kernel
theorem dX7_tell_44 : decode cX7_tell 44 = .ok (.goto (-30), 3) := by decide +kernel
theorem dX7_tell_47 : decode cX7_tell 47 = .ok (.aload_n 0, 1) := by decide +kernel
theorem dX7_tell_48 : decode cX7_tell 48 = .ok (.getfield 7, 3) := by decide +kernel
theorem dX7_tell_51 : decode cX7_tell 51 = .ok (.iconst 1, 1) := by decide +kernel
theorem dX7_tell_52 : decode cX7_tell 52 = .ok (.dup2, 1) := by decide +kernel
theorem dX7_tell_53 : decode cX7_tell 53 = .ok (.iaload, 1) := by decide +kernel
theorem dX7_tell_54 : decode cX7_tell 54 = .ok (.iconst 1, 1) := by decide +kernel
theorem dX7_tell_55 : decode cX7_tell 55 = .ok (.isub, 1) := by decide +kernel
theorem dX7_tell_56 : decode cX7_tell 56 = .ok (.iastore, 1) := by decide +kernel
theorem dX7_tell_57 : decode cX7_tell 57 = .ok (.aload_n 0, 1) := by decide +kernel
theorem dX7_tell_58 : decode cX7_tell 58 = .ok (.getfield 7, 3) := by decide +kernel
theorem dX7_tell_61 : decode cX7_tell 61 = .ok (.bipush 93, 2) := by decide +kernel
theorem dX7_tell_63 : decode cX7_tell 63 = .ok (.aload_n 0, 1) := by decide +kernel
theorem dX7_tell_64 : decode cX7_tell 64 = .ok (.getfield 7, 3) := by decide +kernel
theorem dX7_tell_67 : decode cX7_tell 67 = .ok (.iconst 1, 1) := by decide +kernel
theorem dX7_tell_68 : decode cX7_tell 68 = .ok (.iaload, 1) := by decide +kernel
theorem dX7_tell_69 : decode cX7_tell 69 = .ok (.iadd, 1) := by decide +kernel
theorem dX7_tell_70 : decode cX7_tell 70 = .ok (.aload_n 0, 1) := by decide +kernel
theorem dX7_tell_71 : decode cX7_tell 71 = .ok (.iload_n 1, 1) := by decide +kernel
theorem dX7_tell_72 : decode cX7_tell 72 = .ok (.iconst 0, 1) := by decide +kernel
theorem dX7_tell_73 : decode cX7_tell 73 = .ok (.invokevirtual 40, 3) := by decide +kernel
theorem dX7_tell_76 : decode cX7_tell 76 = .ok (.iastore, 1) := by decide +kernel
theorem dX7_tell_77 : decode cX7_tell 77 = .ok (.aload_n 0, 1) := by decide +kernel
theorem dX7_tell_78 : decode cX7_tell 78 = .ok (.getfield 7, 3) := by decide +kernel
theorem dX7_tell_81 : decode cX7_tell 81 = .ok (.iconst 1, 1) := by decide +kernel
theorem dX7_tell_82 : decode cX7_tell 82 = .ok (.dup2, 1) := by decide +kernel
theorem dX7_tell_83 : decode cX7_tell 83 = .ok (.iaload, 1) := by decide +kernel
theorem dX7_tell_84 : decode cX7_tell 84 = .ok (.iconst 1, 1) := by decide +kernel
theorem dX7_tell_85 : decode cX7_tell 85 = .ok (.iadd, 1) := by decide +kernel
theorem dX7_tell_86 : decode cX7_tell 86 = .ok (.iastore, 1) := by decide +kernel
theorem dX7_tell_87 : decode cX7_tell 87 = .ok (.aload_n 0, 1) := by decide +kernel
theorem dX7_tell_88 : decode cX7_tell 88 = .ok (.iload_n 1, 1) := by decide +kernel
theorem dX7_tell_89 : decode cX7_tell 89 = .ok (.iconst 3, 1) := by decide +kernel
theorem dX7_tell_90 : decode cX7_tell 90 = .ok (.aload_n 0, 1) := by decide +kernel
theorem dX7_tell_91 : decode cX7_tell 91 = .ok (.iload_n 1, 1) := by decide +kernel
theorem dX7_tell_92 : decode cX7_tell 92 = .ok (.iconst 3, 1) := by decide +kernel
theorem dX7_tell_93 : decode cX7_tell 93 = .ok (.invokevirtual 40, 3) := by decide +kernel
theorem dX7_tell_96 : decode cX7_tell 96 = .ok (.iconst 1, 1) := by decide +kernel
theorem dX7_tell_97 : decode cX7_tell 97 = .ok (.iadd, 1) := by decide +kernel
theorem dX7_tell_98 : decode cX7_tell 98 = .ok (.invokevirtual 71, 3) := by decide +kernel
theorem dX7_tell_101 : decode cX7_tell 101 = .ok (.aload_n 0, 1) := by decide +kernel
theorem dX7_tell_102 : decode cX7_tell 102 = .ok (.getfield 7, 3) := by decide +kernel
theorem dX7_tell_105 : decode cX7_tell 105 = .ok (.iconst 2, 1) := by decide +kernel
theorem dX7_tell_106 : decode cX7_tell 106 = .ok (.iaload, 1) := by decide +kernel
theorem dX7_tell_107 : decode cX7_tell 107 = .ok (.iconst 1, 1) := by decide +kernel
theorem dX7_tell_108 : decode cX7_tell 108 = .ok (.if_icmp .ne 10, 3) := by decide +kernel
theorem dX7_tell_111 : decode cX7_tell 111 = .ok (.aload_n 0, 1) := by decide +kernel
theorem dX7_tell_112 : decode cX7_tell 112 = .ok (.iload_n 1, 1) := by decide +kernel
theorem dX7_tell_113 : decode cX7_tell 113 = .ok (.iconst 1, 1) := by decide +kernel
theorem dX7_tell_114 : decode cX7_tell 114 = .ok (.iconst 0, 1) := by decide +kernel
theorem dX7_tell_115 : decode cX7_tell 115 = .ok (.invokevirtual 71, 3) := by decide +kernel
theorem dX7_tell_118 : decode cX7_tell 118 = .ok (.return_, 1) := by decide +kernel
theorem dX7_letGo_0 : decode cX7_letGo 0 = .ok (.aload_n 0, 1) := by decide +kernel
theorem dX7_letGo_1 : decode cX7_letGo 1 = .ok (.getfield 7, 3) := by decide +kernel
theorem dX7_letGo_4 : decode cX7_letGo 4 = .ok (.iconst 0, 1) := by decide +kernel
theorem dX7_letGo_5 : decode cX7_letGo 5 = .ok (.iaload, 1) := by decide +kernel
theorem dX7_letGo_6 : decode cX7_letGo 6 = .ok (.iconst 1, 1) := by decide +kernel
theorem dX7_letGo_7 : decode cX7_letGo 7 = .ok (.isub, 1) := by decide +kernel
theorem dX7_letGo_8 : decode cX7_letGo 8 = .ok (.istore_n 1, 1) := by decide +kernel
theorem dX7_letGo_9 : decode cX7_letGo 9 = .ok (.iload_n 1, 1) := by decide +kernel
theorem dX7_letGo_10 : decode cX7_letGo 10 = .ok (.ifCond .lt 57, 3) := by decide +kernel
theorem dX7_letGo_13 : decode cX7_letGo 13 = .ok (.aload_n 0, 1) := by decide +kernel
theorem dX7_letGo_14 : decode cX7_letGo 14 = .ok (.iload_n 1, 1) := by decide +kernel
theorem dX7_letGo_15 : decode cX7_letGo 15 = .ok (.iconst 2, 1) := by decide +kernel
theorem dX7_letGo_16 : decode cX7_letGo 16 = .ok (.invokevirtual 40, 3) := by decide +kernel
theorem dX7_letGo_19 : decode cX7_letGo 19 = .ok (.ifCond .le 42, 3) := by decide +kernel
theorem dX7_letGo_22 : decode cX7_letGo 22 = .ok (.aload_n 0, 1) := by decide +kernel
theorem dX7_letGo_23 : decode cX7_letGo 23 = .ok (.iload_n 1, 1) := by decide +kernel
theorem dX7_letGo_24 : decode cX7_letGo 24 = .ok (.iconst 2, 1) := by decide +kernel
theorem dX7_letGo_25 : decode cX7_letGo 25 = .ok (.aload_n 0, 1) := by decide +kernel
theorem dX7_letGo_26 : decode cX7_letGo 26 = .ok (.iload_n 1, 1) := by decide +kernel
theorem dX7_letGo_27 : decode cX7_letGo 27 = .ok (.iconst 2, 1) := by decide +kernel
theorem dX7_letGo_28 : decode cX7_letGo 28 = .ok (.invokevirtual 40, 3) := by decide +kernel
theorem dX7_letGo_31 : decode cX7_letGo 31 = .ok (.iconst 1, 1) := by decide +kernel
theorem dX7_letGo_32 : decode cX7_letGo 32 = .ok (.isub, 1) := by decide +kernel
theorem dX7_letGo_33 : decode cX7_letGo 33 = .ok (.invokevirtual 71, 3) := by decide +kernel
theorem dX7_letGo_36 : decode cX7_letGo 36 = .ok (.aload_n 0, 1) := by decide +kernel
theorem dX7_letGo_37 : decode cX7_letGo 37 = .ok (.iload_n 1, 1) := by decide +kernel
theorem dX7_letGo_38 : decode cX7_letGo 38 = .ok (.iconst 2, 1) := by decide +kernel
theorem dX7_letGo_39 : decode cX7_letGo 39 = .ok (.invokevirtual 40, 3) := by decide +kernel
theorem dX7_letGo_42 : decode cX7_letGo 42 = .ok (.ifCond .ne 19, 3) := by decide +kernel
theorem dX7_letGo_45 : decode cX7_letGo 45 = .ok (.aload_n 0, 1) := by decide +kernel
theorem dX7_letGo_46 : decode cX7_letGo 46 = .ok (.iload_n 1, 1) := by decide +kernel
theorem dX7_letGo_47 : decode cX7_letGo 47 = .ok (.invokevirtual 82, 3) := by decide +kernel
theorem dX7_letGo_50 : decode cX7_letGo 50 = .ok (.aload_n 0, 1) := by decide +kernel
theorem dX7_letGo_51 : decode cX7_letGo 51 = .ok (.getfield 7, 3) := by decide +kernel
theorem dX7_letGo_54 : decode cX7_letGo 54 = .ok (.bipush 12, 2) := by decide +kernel
theorem dX7_letGo_56 : decode cX7_letGo 56 = .ok (.dup2, 1) := by decide +kernel
theorem dX7_letGo_57 : decode cX7_letGo 57 = .ok (.iaload, 1) := by decide +kernel
theorem dX7_letGo_58 : decode cX7_letGo 58 = .ok (.iconst 1, 1) := by decide +kernel
theorem dX7_letGo_59 : decode cX7_letGo 59 = .ok (.iadd, 1) := by decide +kernel
theorem dX7_letGo_60 : decode cX7_letGo 60 = .ok (.iastore, 1) := by decide +kernel
theorem dX7_letGo_61 : decode cX7_letGo 61 = .ok (.iinc 1 (-1), 3) := by decide +kernel
theorem dX7_letGo_64 : decode cX7_letGo 64 = .ok (.goto (-55), 3) := by decide +kernel
theorem dX7_letGo_67 : decode cX7_letGo 67 = .ok (.return_, 1) := by decide +kernel
theorem dX7_begins_0 : decode cX7_begins 0 = .ok (.iload_n 0, 1) := by decide +kernel
theorem dX7_begins_1 : decode cX7_begins 1 = .ok (.bipush 8, 2) := by decide +kernel
theorem dX7_begins_3 : decode cX7_begins 3 = .ok (.iload_n 1, 1) := by decide +kernel
theorem dX7_begins_4 : decode cX7_begins 4 = .ok (.isub, 1) := by decide +kernel
theorem dX7_begins_5 : decode cX7_begins 5 = .ok (.ishr, 1) := by decide +kernel
theorem dX7_begins_6 : decode cX7_begins 6 = .ok (.iload_n 2, 1) := by decide +kernel
theorem dX7_begins_7 : decode cX7_begins 7 = .ok (.if_icmp .ne 7, 3) := by decide +kernel
theorem dX7_begins_10 : decode cX7_begins 10 = .ok (.iconst 1, 1) := by decide +kernel
theorem dX7_begins_11 : decode cX7_begins 11 = .ok (.goto 4, 3) := by decide +kernel
theorem dX7_begins_14 : decode cX7_begins 14 = .ok (.iconst 0, 1) := by decide +kernel
theorem dX7_begins_15 : decode cX7_begins 15 = .ok (.ireturn, 1) := by decide +kernel
theorem dX7_noAnswer_0 : decode cX7_noAnswer 0 = .ok (.aload_n 0, 1) := by decide +kernel
theorem dX7_noAnswer_1 : decode cX7_noAnswer 1 = .ok (.iconst 0, 1) := by decide +kernel
theorem dX7_noAnswer_2 : decode cX7_noAnswer 2 = .ok (.putfield 92, 3) := by decide +kernel
theorem dX7_noAnswer_5 : decode cX7_noAnswer 5 = .ok (.aload_n 0, 1) := by decide +kernel
theorem dX7_noAnswer_6 : decode cX7_noAnswer 6 = .ok (.bipush (-5), 2) := by decide +kernel
theorem dX7_noAnswer_8 : decode cX7_noAnswer 8 = .ok (.putfield 95, 3) := by decide +kernel
theorem dX7_noAnswer_11 : decode cX7_noAnswer 11 = .ok (.aload_n 0, 1) := by decide +kernel
theorem dX7_noAnswer_12 : decode cX7_noAnswer 12 = .ok (.iconst 0, 1) := by decide +kernel
theorem dX7_noAnswer_13 : decode cX7_noAnswer 13 = .ok (.putfield 98, 3) := by decide +kernel
theorem dX7_noAnswer_16 : decode cX7_noAnswer 16 = .ok (.aload_n 0, 1) := by decide +kernel
theorem dX7_noAnswer_17 : decode cX7_noAnswer 17 = .ok (.iconst 0, 1) := by decide +kernel
theorem dX7_noAnswer_18 : decode cX7_noAnswer 18 = .ok (.putfield 101, 3) := by decide +kernel
theorem dX7_noAnswer_21 : decode cX7_noAnswer 21 = .ok (.return_, 1) := by decide +kernel
theorem dX7_answers_0 : decode cX7_answers 0 = .ok (.aload_n 0, 1) := by decide +kernel
theorem dX7_answers_1 : decode cX7_answers 1 = .ok (.dup, 1) := by decide +kernel
theorem dX7_answers_2 : decode cX7_answers 2 = .ok (.getfield 101, 3) := by decide +kernel
theorem dX7_answers_5 : decode cX7_answers 5 = .ok (.aload_n 0, 1) := by decide +kernel
theorem dX7_answers_6 : decode cX7_answers 6 = .ok (.getfield 92, 3) := by decide +kernel
theorem dX7_answers_9 : decode cX7_answers 9 = .ok (.ifCond .ne 7, 3) := by decide +kernel
theorem dX7_answers_12 : decode cX7_answers 12 = .ok (.iconst 0, 1) := by decide +kernel
theorem dX7_answers_13 : decode cX7_answers 13 = .ok (.goto 14, 3) := by decide +kernel
theorem dX7_answers_16 : decode cX7_answers 16 = .ok (.aload_n 0, 1) := by decide +kernel
theorem dX7_answers_17 : decode cX7_answers 17 = .ok (.iload_n 1, 1) := by decide +kernel
theorem dX7_answers_18 : decode cX7_answers 18 = .ok (.iconst 0, 1) := by decide +kernel
theorem dX7_answers_19 : decode cX7_answers 19 = .ok (.invokevirtual 40, 3) := by decide +kernel
theorem dX7_answers_22 : decode cX7_answers 22 = .ok (.aload_n 0, 1) := by decide +kernel
theorem dX7_answers_23 : decode cX7_answers 23 = .ok (.getfield 98, 3) := by decide +kernel
theorem dX7_answers_26 : decode cX7_answers 26 = .ok (.ixor, 1) := by decide +kernel
theorem dX7_answers_27 : decode cX7_answers 27 = .ok (.ior, 1) := by decide +kernel
theorem dX7_answers_28 : decode cX7_answers 28 = .ok (.putfield 101, 3) := by decide +kernel
theorem dX7_answers_31 : decode cX7_answers 31 = .ok (.aload_n 0, 1) := by decide +kernel
theorem dX7_answers_32 : decode cX7_answers 32 = .ok (.dup, 1) := by decide +kernel
theorem dX7_answers_33 : decode cX7_answers 33 = .ok (.getfield 92, 3) := by decide +kernel
theorem dX7_answers_36 : decode cX7_answers 36 = .ok (.iconst 1, 1) := by decide +kernel
theorem dX7_answers_37 : decode cX7_answers 37 = .ok (.iadd, 1) := by decide +kernel
theorem dX7_answers_38 : decode cX7_answers 38 = .ok (.putfield 92, 3) := by decide +kernel
theorem dX7_answers_41 : decode cX7_answers 41 = .ok (.aload_n 0, 1) := by decide +kernel
theorem dX7_answers_42 : decode cX7_answers 42 = .ok (.iload_n 1, 1) := by decide +kernel
theorem dX7_answers_43 : decode cX7_answers 43 = .ok (.putfield 95, 3) := by decide +kernel
theorem dX7_answers_46 : decode cX7_answers 46 = .ok (.aload_n 0, 1) := by decide +kernel
theorem dX7_answers_47 : decode cX7_answers 47 = .ok (.aload_n 0, 1) := by decide +kernel
theorem dX7_answers_48 : decode cX7_answers 48 = .ok (.iload_n 1, 1) := by decide +kernel
theorem dX7_answers_49 : decode cX7_answers 49 = .ok (.iconst 0, 1) := by decide +kernel
theorem dX7_answers_50 : decode cX7_answers 50 = .ok (.invokevirtual 40, 3) := by decide +kernel
theorem dX7_answers_53 : decode cX7_answers 53 = .ok (.putfield 98, 3) := by decide +kernel
theorem dX7_answers_56 : decode cX7_answers 56 = .ok (.return_, 1) := by decide +kernel
theorem dX7_clashBit_0 : decode cX7_clashBit 0 = .ok (.iconst 0, 1) := by decide +kernel
theorem dX7_clashBit_1 : decode cX7_clashBit 1 = .ok (.istore_n 1, 1) := by decide +kernel
theorem dX7_clashBit_2 : decode cX7_clashBit 2 = .ok (.aload_n 0, 1) := by decide +kernel
theorem dX7_clashBit_3 : decode cX7_clashBit 3 = .ok (.getfield 101, 3) := by decide +kernel
theorem dX7_clashBit_6 : decode cX7_clashBit 6 = .ok (.bipush 7, 2) := by decide +kernel
theorem dX7_clashBit_8 : decode cX7_clashBit 8 = .ok (.iload_n 1, 1) := by decide +kernel
theorem dX7_clashBit_9 : decode cX7_clashBit 9 = .ok (.isub, 1) := by decide +kernel
theorem dX7_clashBit_10 : decode cX7_clashBit 10 = .ok (.ishr, 1) := by decide +kernel
theorem dX7_clashBit_11 : decode cX7_clashBit 11 = .ok (.iconst 1, 1) := by decide +kernel
theorem dX7_clashBit_12 : decode cX7_clashBit 12 = .ok (.iand, 1) := by decide +kernel
theorem dX7_clashBit_13 : decode cX7_clashBit 13 = .ok (.ifCond .ne 9, 3) := by decide +kernel
theorem dX7_clashBit_16 : decode cX7_clashBit 16 = .ok (.iinc 1 1, 3) := by decide +kernel
theorem dX7_clashBit_19 : decode cX7_clashBit 19 = .ok (.goto (-17), 3) := by decide +kernel
theorem dX7_clashBit_22 : decode cX7_clashBit 22 = .ok (.iload_n 1, 1) := by decide +kernel
theorem dX7_clashBit_23 : decode cX7_clashBit 23 = .ok (.ireturn, 1) := by decide +kernel
theorem dX7_answer_0 : decode cX7_answer 0 = .ok (.aload_n 0, 1) := by decide +kernel
theorem dX7_answer_1 : decode cX7_answer 1 = .ok (.getfield 92, 3) := by decide +kernel
theorem dX7_answer_4 : decode cX7_answer 4 = .ok (.ifCond .ne 9, 3) := by decide +kernel
theorem dX7_answer_7 : decode cX7_answer 7 = .ok (.sipush 300, 3) := by decide +kernel
theorem dX7_answer_10 : decode cX7_answer 10 = .ok (.goto 26, 3) := by decide +kernel
theorem dX7_answer_13 : decode cX7_answer 13 = .ok (.aload_n 0, 1) := by decide +kernel
theorem dX7_answer_14 : decode cX7_answer 14 = .ok (.getfield 92, 3) := by decide +kernel
theorem dX7_answer_17 : decode cX7_answer 17 = .ok (.iconst 1, 1) := by decide +kernel
theorem dX7_answer_18 : decode cX7_answer 18 = .ok (.if_icmp .ne 10, 3) := by decide +kernel
theorem dX7_answer_21 : decode cX7_answer 21 = .ok (.aload_n 0, 1) := by decide +kernel
theorem dX7_answer_22 : decode cX7_answer 22 = .ok (.getfield 98, 3) := by decide +kernel
theorem dX7_answer_25 : decode cX7_answer 25 = .ok (.goto 11, 3) := by decide +kernel
theorem dX7_answer_28 : decode cX7_answer 28 = .ok (.sipush 400, 3) := by decide +kernel
theorem dX7_answer_31 : decode cX7_answer 31 = .ok (.aload_n 0, 1) := by decide +kernel
theorem dX7_answer_32 : decode cX7_answer 32 = .ok (.invokevirtual 104, 3) := by decide +kernel
theorem dX7_answer_35 : decode cX7_answer 35 = .ok (.iadd, 1) := by decide +kernel
theorem dX7_answer_36 : decode cX7_answer 36 = .ok (.istore_n 1, 1) := by decide +kernel
theorem dX7_answer_37 : decode cX7_answer 37 = .ok (.aload_n 0, 1) := by decide +kernel
theorem dX7_answer_38 : decode cX7_answer 38 = .ok (.getfield 7, 3) := by decide +kernel
theorem dX7_answer_41 : decode cX7_answer 41 = .ok (.bipush 7, 2) := by decide +kernel
theorem dX7_answer_43 : decode cX7_answer 43 = .ok (.dup2, 1) := by decide +kernel
theorem dX7_answer_44 : decode cX7_answer 44 = .ok (.iaload, 1) := by decide +kernel
theorem dX7_answer_45 : decode cX7_answer 45 = .ok (.aload_n 0, 1) := by decide +kernel
theorem dX7_answer_46 : decode cX7_answer 46 = .ok (.getfield 92, 3) := by decide +kernel
theorem dX7_answer_49 : decode cX7_answer 49 = .ok (.ifCond .ne 7, 3) := by decide +kernel
theorem dX7_answer_52 : decode cX7_answer 52 = .ok (.iconst 1, 1) := by decide +kernel
theorem dX7_answer_53 : decode cX7_answer 53 = .ok (.goto 4, 3) := by decide +kernel
theorem dX7_answer_56 : decode cX7_answer 56 = .ok (.iconst 0, 1) := by decide +kernel
theorem dX7_answer_57 : decode cX7_answer 57 = .ok (.iadd, 1) := by decide +kernel
theorem dX7_answer_58 : decode cX7_answer 58 = .ok (.iastore, 1) := by decide +kernel
theorem dX7_answer_59 : decode cX7_answer 59 = .ok (.aload_n 0, 1) := by decide +kernel
theorem dX7_answer_60 : decode cX7_answer 60 = .ok (.getfield 7, 3) := by decide +kernel
theorem dX7_answer_63 : decode cX7_answer 63 = .ok (.bipush 8, 2) := by decide +kernel
theorem dX7_answer_65 : decode cX7_answer 65 = .ok (.dup2, 1) := by decide +kernel
theorem dX7_answer_66 : decode cX7_answer 66 = .ok (.iaload, 1) := by decide +kernel
theorem dX7_answer_67 : decode cX7_answer 67 = .ok (.aload_n 0, 1) := by decide +kernel
theorem dX7_answer_68 : decode cX7_answer 68 = .ok (.getfield 92, 3) := by decide +kernel
theorem dX7_answer_71 : decode cX7_answer 71 = .ok (.iconst 1, 1) := by decide +kernel
theorem dX7_answer_72 : decode cX7_answer 72 = .ok (.if_icmp .ne 7, 3) := by decide +kernel
theorem dX7_answer_75 : decode cX7_answer 75 = .ok (.iconst 1, 1) := by decide +kernel
theorem dX7_answer_76 : decode cX7_answer 76 = .ok (.goto 4, 3) := by decide +kernel
theorem dX7_answer_79 : decode cX7_answer 79 = .ok (.iconst 0, 1) := by decide +kernel
theorem dX7_answer_80 : decode cX7_answer 80 = .ok (.iadd, 1) := by decide +kernel
theorem dX7_answer_81 : decode cX7_answer 81 = .ok (.iastore, 1) := by decide +kernel
theorem dX7_answer_82 : decode cX7_answer 82 = .ok (.aload_n 0, 1) := by decide +kernel
theorem dX7_answer_83 : decode cX7_answer 83 = .ok (.getfield 7, 3) := by decide +kernel
theorem dX7_answer_86 : decode cX7_answer 86 = .ok (.bipush 9, 2) := by decide +kernel
theorem dX7_answer_88 : decode cX7_answer 88 = .ok (.dup2, 1) := by decide +kernel
theorem dX7_answer_89 : decode cX7_answer 89 = .ok (.iaload, 1) := by decide +kernel
theorem dX7_answer_90 : decode cX7_answer 90 = .ok (.aload_n 0, 1) := by decide +kernel
theorem dX7_answer_91 : decode cX7_answer 91 = .ok (.getfield 92, 3) := by decide +kernel
theorem dX7_answer_94 : decode cX7_answer 94 = .ok (.iconst 1, 1) := by decide +kernel
theorem dX7_answer_95 : decode cX7_answer 95 = .ok (.if_icmp .le 7, 3) := by decide +kernel
theorem dX7_answer_98 : decode cX7_answer 98 = .ok (.iconst 1, 1) := by decide +kernel
theorem dX7_answer_99 : decode cX7_answer 99 = .ok (.goto 4, 3) := by decide +kernel
theorem dX7_answer_102 : decode cX7_answer 102 = .ok (.iconst 0, 1) := by decide +kernel
theorem dX7_answer_103 : decode cX7_answer 103 = .ok (.iadd, 1) := by decide +kernel
theorem dX7_answer_104 : decode cX7_answer 104 = .ok (.iastore, 1) := by decide +kernel
theorem dX7_answer_105 : decode cX7_answer 105 = .ok (.aload_n 0, 1) := by decide +kernel
theorem dX7_answer_106 : decode cX7_answer 106 = .ok (.getfield 92, 3) := by decide +kernel
theorem dX7_answer_109 : decode cX7_answer 109 = .ok (.iconst 1, 1) := by decide +kernel
theorem dX7_answer_110 : decode cX7_answer 110 = .ok (.if_icmp .ne 11, 3) := by decide +kernel
theorem dX7_answer_113 : decode cX7_answer 113 = .ok (.aload_n 0, 1) := by decide +kernel
theorem dX7_answer_114 : decode cX7_answer 114 = .ok (.aload_n 0, 1) := by decide +kernel
theorem dX7_answer_115 : decode cX7_answer 115 = .ok (.getfield 95, 3) := by decide +kernel
theorem dX7_answer_118 : decode cX7_answer 118 = .ok (.invokevirtual 107, 3) := by decide +kernel
theorem dX7_answer_121 : decode cX7_answer 121 = .ok (.aload_n 0, 1) := by decide +kernel
theorem dX7_answer_122 : decode cX7_answer 122 = .ok (.invokevirtual 110, 3) := by decide +kernel
theorem dX7_answer_125 : decode cX7_answer 125 = .ok (.iload_n 1, 1) := by decide +kernel
theorem dX7_answer_126 : decode cX7_answer 126 = .ok (.ireturn, 1) := by decide +kernel
theorem dX7_askNow_0 : decode cX7_askNow 0 = .ok (.aload_n 0, 1) := by decide +kernel
theorem dX7_askNow_1 : decode cX7_askNow 1 = .ok (.invokevirtual 113, 3) := by decide +kernel
theorem dX7_askNow_4 : decode cX7_askNow 4 = .ok (.iconst 0, 1) := by decide +kernel
theorem dX7_askNow_5 : decode cX7_askNow 5 = .ok (.istore_n 3, 1) := by decide +kernel
theorem dX7_askNow_6 : decode cX7_askNow 6 = .ok (.iload_n 3, 1) := by decide +kernel
theorem dX7_askNow_7 : decode cX7_askNow 7 = .ok (.aload_n 0, 1) := by decide +kernel
theorem dX7_askNow_8 : decode cX7_askNow 8 = .ok (.getfield 7, 3) := by decide +kernel
theorem dX7_askNow_11 : decode cX7_askNow 11 = .ok (.iconst 0, 1) := by decide +kernel
theorem dX7_askNow_12 : decode cX7_askNow 12 = .ok (.iaload, 1) := by decide +kernel
theorem dX7_askNow_13 : decode cX7_askNow 13 = .ok (.if_icmp .ge 38, 3) := by decide +kernel
theorem dX7_askNow_16 : decode cX7_askNow 16 = .ok (.aload_n 0, 1) := by decide +kernel
theorem dX7_askNow_17 : decode cX7_askNow 17 = .ok (.iload_n 3, 1) := by decide +kernel
theorem dX7_askNow_18 : decode cX7_askNow 18 = .ok (.iconst 1, 1) := by decide +kernel
theorem dX7_askNow_19 : decode cX7_askNow 19 = .ok (.invokevirtual 40, 3) := by decide +kernel
theorem dX7_askNow_22 : decode cX7_askNow 22 = .ok (.iconst 1, 1) := by decide +kernel
theorem dX7_askNow_23 : decode cX7_askNow 23 = .ok (.if_icmp .ne 22, 3) := by decide +kernel
theorem dX7_askNow_26 : decode cX7_askNow 26 = .ok (.aload_n 0, 1) := by decide +kernel
theorem dX7_askNow_27 : decode cX7_askNow 27 = .ok (.iload_n 3, 1) := by decide +kernel
theorem dX7_askNow_28 : decode cX7_askNow 28 = .ok (.iconst 0, 1) := by decide +kernel
theorem dX7_askNow_29 : decode cX7_askNow 29 = .ok (.invokevirtual 40, 3) := by decide +kernel
theorem dX7_askNow_32 : decode cX7_askNow 32 = .ok (.iload_n 1, 1) := by decide +kernel
theorem dX7_askNow_33 : decode cX7_askNow 33 = .ok (.iload_n 2, 1) := by decide +kernel
theorem dX7_askNow_34 : decode cX7_askNow 34 = .ok (.invokestatic 116, 3) := by decide +kernel
theorem dX7_askNow_37 : decode cX7_askNow 37 = .ok (.ifCond .eq 8, 3) := by decide +kernel
theorem dX7_askNow_40 : decode cX7_askNow 40 = .ok (.aload_n 0, 1) := by decide +kernel
theorem dX7_askNow_41 : decode cX7_askNow 41 = .ok (.iload_n 3, 1) := by decide +kernel
theorem dX7_askNow_42 : decode cX7_askNow 42 = .ok (.invokevirtual 119, 3) := by decide +kernel
theorem dX7_askNow_45 : decode cX7_askNow 45 = .ok (.iinc 3 1, 3) := by decide +kernel
theorem dX7_askNow_48 : decode cX7_askNow 48 = .ok (.goto (-42), 3) := by decide +kernel
theorem dX7_askNow_51 : decode cX7_askNow 51 = .ok (.aload_n 0, 1) := by decide +kernel
theorem dX7_askNow_52 : decode cX7_askNow 52 = .ok (.getfield 7, 3) := by decide +kernel
theorem dX7_askNow_55 : decode cX7_askNow 55 = .ok (.iconst 5, 1) := by decide +kernel
theorem dX7_askNow_56 : decode cX7_askNow 56 = .ok (.dup2, 1) := by decide +kernel
theorem dX7_askNow_57 : decode cX7_askNow 57 = .ok (.iaload, 1) := by decide +kernel
theorem dX7_askNow_58 : decode cX7_askNow 58 = .ok (.iconst 1, 1) := by decide +kernel
theorem dX7_askNow_59 : decode cX7_askNow 59 = .ok (.iadd, 1) := by decide +kernel
theorem dX7_askNow_60 : decode cX7_askNow 60 = .ok (.iastore, 1) := by decide +kernel
theorem dX7_askNow_61 : decode cX7_askNow 61 = .ok (.aload_n 0, 1) := by decide +kernel
theorem dX7_askNow_62 : decode cX7_askNow 62 = .ok (.getfield 7, 3) := by decide +kernel
theorem dX7_askNow_65 : decode cX7_askNow 65 = .ok (.bipush 10, 2) := by decide +kernel
theorem dX7_askNow_67 : decode cX7_askNow 67 = .ok (.dup2, 1) := by decide +kernel
theorem dX7_askNow_68 : decode cX7_askNow 68 = .ok (.iaload, 1) := by decide +kernel
theorem dX7_askNow_69 : decode cX7_askNow 69 = .ok (.iconst 4, 1) := by decide +kernel
theorem dX7_askNow_70 : decode cX7_askNow 70 = .ok (.iload_n 1, 1) := by decide +kernel
theorem dX7_askNow_71 : decode cX7_askNow 71 = .ok (.iadd, 1) := by decide +kernel
theorem dX7_askNow_72 : decode cX7_askNow 72 = .ok (.aload_n 0, 1) := by decide +kernel
theorem dX7_askNow_73 : decode cX7_askNow 73 = .ok (.getfield 92, 3) := by decide +kernel
theorem dX7_askNow_76 : decode cX7_askNow 76 = .ok (.ifCond .ne 7, 3) := by decide +kernel
theorem dX7_askNow_79 : decode cX7_askNow 79 = .ok (.iconst 2, 1) := by decide +kernel
theorem dX7_askNow_80 : decode cX7_askNow 80 = .ok (.goto 17, 3) := by decide +kernel
theorem dX7_askNow_83 : decode cX7_askNow 83 = .ok (.iload_n 1, 1) := by decide +kernel
theorem dX7_askNow_84 : decode cX7_askNow 84 = .ok (.bipush 8, 2) := by decide +kernel
theorem dX7_askNow_86 : decode cX7_askNow 86 = .ok (.if_icmp .ne 7, 3) := by decide +kernel
theorem dX7_askNow_89 : decode cX7_askNow 89 = .ok (.iconst 1, 1) := by decide +kernel
theorem dX7_askNow_90 : decode cX7_askNow 90 = .ok (.goto 7, 3) := by decide +kernel
theorem dX7_askNow_93 : decode cX7_askNow 93 = .ok (.bipush 8, 2) := by decide +kernel
theorem dX7_askNow_95 : decode cX7_askNow 95 = .ok (.iload_n 1, 1) := by decide +kernel
theorem dX7_askNow_96 : decode cX7_askNow 96 = .ok (.isub, 1) := by decide +kernel
theorem dX7_askNow_97 : decode cX7_askNow 97 = .ok (.iadd, 1) := by decide +kernel
theorem dX7_askNow_98 : decode cX7_askNow 98 = .ok (.iadd, 1) := by decide +kernel
theorem dX7_askNow_99 : decode cX7_askNow 99 = .ok (.iastore, 1) := by decide +kernel
theorem dX7_askNow_100 : decode cX7_askNow 100 = .ok (.aload_n 0, 1) := by decide +kernel
theorem dX7_askNow_101 : decode cX7_askNow 101 = .ok (.invokevirtual 122, 3) := by decide +kernel
theorem dX7_askNow_104 : decode cX7_askNow 104 = .ok (.ireturn, 1) := by decide +kernel
theorem dX7_isBeginning_0 : decode cX7_isBeginning 0 = .ok (.iload_n 0, 1) := by decide +kernel
theorem dX7_isBeginning_1 : decode cX7_isBeginning 1 = .ok (.iconst 0, 1) := by decide +kernel
theorem dX7_isBeginning_2 : decode cX7_isBeginning 2 = .ok (.bipush 8, 2) := by decide +kernel
theorem dX7_isBeginning_4 : decode cX7_isBeginning 4 = .ok (.invokestatic 63, 3) := by decide +kernel
theorem dX7_isBeginning_7 : decode cX7_isBeginning 7 = .ok (.ifCond .eq 20, 3) := by decide +kernel
theorem dX7_isBeginning_10 : decode cX7_isBeginning 10 = .ok (.iload_n 1, 1) := by decide +kernel
theorem dX7_isBeginning_11 : decode cX7_isBeginning 11 = .ok (.iconst 0, 1) := by decide +kernel
theorem dX7_isBeginning_12 : decode cX7_isBeginning 12 = .ok (.iconst 1, 1) := by decide +kernel
theorem dX7_isBeginning_13 : decode cX7_isBeginning 13 = .ok (.iload_n 0, 1) := by decide +kernel
theorem dX7_isBeginning_14 : decode cX7_isBeginning 14 = .ok (.ishl, 1) := by decide +kernel
theorem dX7_isBeginning_15 : decode cX7_isBeginning 15 = .ok (.iconst 1, 1) := by decide +kernel
theorem dX7_isBeginning_16 : decode cX7_isBeginning 16 = .ok (.isub, 1) := by decide +kernel
theorem dX7_isBeginning_17 : decode cX7_isBeginning 17 = .ok (.invokestatic 63, 3) := by decide +kernel
theorem dX7_isBeginning_20 : decode cX7_isBeginning 20 = .ok (.ifCond .eq 7, 3) := by decide +kernel
theorem dX7_isBeginning_23 : decode cX7_isBeginning 23 = .ok (.iconst 1, 1) := by decide +kernel
theorem dX7_isBeginning_24 : decode cX7_isBeginning 24 = .ok (.goto 4, 3) := by decide +kernel
theorem dX7_isBeginning_27 : decode cX7_isBeginning 27 = .ok (.iconst 0, 1) := by decide +kernel
theorem dX7_isBeginning_28 : decode cX7_isBeginning 28 = .ok (.ireturn, 1) := by decide +kernel
theorem dX7_ask_0 : decode cX7_ask 0 = .ok (.iload_n 1, 1) := by decide +kernel
theorem dX7_ask_1 : decode cX7_ask 1 = .ok (.iload_n 2, 1) := by decide +kernel
theorem dX7_ask_2 : decode cX7_ask 2 = .ok (.invokestatic 125, 3) := by decide +kernel
theorem dX7_ask_5 : decode cX7_ask 5 = .ok (.ifCond .ne 6, 3) := by decide +kernel
theorem dX7_ask_8 : decode cX7_ask 8 = .ok (.bipush (-2), 2) := by decide +kernel
theorem dX7_ask_10 : decode cX7_ask 10 = .ok (.ireturn, 1) := by decide +kernel
theorem dX7_ask_11 : decode cX7_ask 11 = .ok (.aload_n 0, 1) := by decide +kernel
theorem dX7_ask_12 : decode cX7_ask 12 = .ok (.invokevirtual 60, 3) := by decide +kernel
theorem dX7_ask_15 : decode cX7_ask 15 = .ok (.aload_n 0, 1) := by decide +kernel
theorem dX7_ask_16 : decode cX7_ask 16 = .ok (.iload_n 1, 1) := by decide +kernel
theorem dX7_ask_17 : decode cX7_ask 17 = .ok (.iload_n 2, 1) := by decide +kernel
theorem dX7_ask_18 : decode cX7_ask 18 = .ok (.invokevirtual 129, 3) := by decide +kernel
theorem dX7_ask_21 : decode cX7_ask 21 = .ok (.ireturn, 1) := by decide +kernel
theorem dX7_walkNow_0 : decode cX7_walkNow 0 = .ok (.iconst 1, 1) := by decide +kernel
theorem dX7_walkNow_1 : decode cX7_walkNow 1 = .ok (.istore_n 2, 1) := by decide +kernel
theorem dX7_walkNow_2 : decode cX7_walkNow 2 = .ok (.aload_n 0, 1) := by decide +kernel
theorem dX7_walkNow_3 : decode cX7_walkNow 3 = .ok (.getfield 25, 3) := by decide +kernel
theorem dX7_walkNow_6 : decode cX7_walkNow 6 = .ok (.iconst 0, 1) := by decide +kernel
theorem dX7_walkNow_7 : decode cX7_walkNow 7 = .ok (.iconst 0, 1) := by decide +kernel
theorem dX7_walkNow_8 : decode cX7_walkNow 8 = .ok (.iastore, 1) := by decide +kernel
theorem dX7_walkNow_9 : decode cX7_walkNow 9 = .ok (.aload_n 0, 1) := by decide +kernel
theorem dX7_walkNow_10 : decode cX7_walkNow 10 = .ok (.iconst 0, 1) := by decide +kernel
theorem dX7_walkNow_11 : decode cX7_walkNow 11 = .ok (.putfield 132, 3) := by decide +kernel
theorem dX7_walkNow_14 : decode cX7_walkNow 14 = .ok (.iload_n 2, 1) := by decide +kernel
theorem dX7_walkNow_15 : decode cX7_walkNow 15 = .ok (.ifCond .le 142, 3) := by decide +kernel
theorem dX7_walkNow_18 : decode cX7_walkNow 18 = .ok (.iinc 2 (-1), 3) := by decide +kernel
theorem dX7_walkNow_21 : decode cX7_walkNow 21 = .ok (.aload_n 0, 1) := by decide +kernel
theorem dX7_walkNow_22 : decode cX7_walkNow 22 = .ok (.getfield 25, 3) := by decide +kernel
theorem dX7_walkNow_25 : decode cX7_walkNow 25 = .ok (.iload_n 2, 1) := by decide +kernel
theorem dX7_walkNow_26 : decode cX7_walkNow 26 = .ok (.iaload, 1) := by decide +kernel
theorem dX7_walkNow_27 : decode cX7_walkNow 27 = .ok (.sipush 256, 3) := by decide +kernel
theorem dX7_walkNow_30 : decode cX7_walkNow 30 = .ok (.idiv, 1) := by decide +kernel
theorem dX7_walkNow_31 : decode cX7_walkNow 31 = .ok (.istore_n 3, 1) := by decide +kernel
theorem dX7_walkNow_32 : decode cX7_walkNow 32 = .ok (.aload_n 0, 1) := by decide +kernel
theorem dX7_walkNow_33 : decode cX7_walkNow 33 = .ok (.getfield 25, 3) := by decide +kernel
theorem dX7_walkNow_36 : decode cX7_walkNow 36 = .ok (.iload_n 2, 1) := by decide +kernel
theorem dX7_walkNow_37 : decode cX7_walkNow 37 = .ok (.iaload, 1) := by decide +kernel
theorem dX7_walkNow_38 : decode cX7_walkNow 38 = .ok (.sipush 256, 3) := by decide +kernel
theorem dX7_walkNow_41 : decode cX7_walkNow 41 = .ok (.irem, 1) := by decide +kernel
theorem dX7_walkNow_42 : decode cX7_walkNow 42 = .ok (.istore 4, 2) := by decide +kernel
theorem dX7_walkNow_44 : decode cX7_walkNow 44 = .ok (.aload_n 0, 1) := by decide +kernel
theorem dX7_walkNow_45 : decode cX7_walkNow 45 = .ok (.iload_n 3, 1) := by decide +kernel
theorem dX7_walkNow_46 : decode cX7_walkNow 46 = .ok (.aload_n 0, 1) := by decide +kernel
theorem dX7_walkNow_47 : decode cX7_walkNow 47 = .ok (.getfield 132, 3) := by decide +kernel
theorem dX7_walkNow_50 : decode cX7_walkNow 50 = .ok (.if_icmp .le 7, 3) := by decide +kernel
theorem dX7_walkNow_53 : decode cX7_walkNow 53 = .ok (.iload_n 3, 1) := by decide +kernel
theorem dX7_walkNow_54 : decode cX7_walkNow 54 = .ok (.goto 7, 3) := by decide +kernel
theorem dX7_walkNow_57 : decode cX7_walkNow 57 = .ok (.aload_n 0, 1) := by decide +kernel
theorem dX7_walkNow_58 : decode cX7_walkNow 58 = .ok (.getfield 132, 3) := by decide +kernel
theorem dX7_walkNow_61 : decode cX7_walkNow 61 = .ok (.putfield 132, 3) := by decide +kernel
theorem dX7_walkNow_64 : decode cX7_walkNow 64 = .ok (.aload_n 0, 1) := by decide +kernel
theorem dX7_walkNow_65 : decode cX7_walkNow 65 = .ok (.iload_n 3, 1) := by decide +kernel
theorem dX7_walkNow_66 : decode cX7_walkNow 66 = .ok (.iload 4, 2) := by decide +kernel
theorem dX7_walkNow_68 : decode cX7_walkNow 68 = .ok (.invokevirtual 129, 3) := by decide +kernel
theorem dX7_walkNow_71 : decode cX7_walkNow 71 = .ok (.istore 5, 2) := by decide +kernel
theorem dX7_walkNow_73 : decode cX7_walkNow 73 = .ok (.iload 5, 2) := by decide +kernel
theorem dX7_walkNow_75 : decode cX7_walkNow 75 = .ok (.sipush 400, 3) := by decide +kernel
theorem dX7_walkNow_78 : decode cX7_walkNow 78 = .ok (.if_icmp .lt 76, 3) := by decide +kernel
theorem dX7_walkNow_81 : decode cX7_walkNow 81 = .ok (.iload_n 1, 1) := by decide +kernel
theorem dX7_walkNow_82 : decode cX7_walkNow 82 = .ok (.ifCond .eq 12, 3) := by decide +kernel
theorem dX7_walkNow_85 : decode cX7_walkNow 85 = .ok (.iload 5, 2) := by decide +kernel
theorem dX7_walkNow_87 : decode cX7_walkNow 87 = .ok (.sipush 400, 3) := by decide +kernel
theorem dX7_walkNow_90 : decode cX7_walkNow 90 = .ok (.isub, 1) := by decide +kernel
theorem dX7_walkNow_91 : decode cX7_walkNow 91 = .ok (.goto 4, 3) := by decide +kernel
theorem dX7_walkNow_94 : decode cX7_walkNow 94 = .ok (.iload_n 3, 1) := by decide +kernel
theorem dX7_walkNow_95 : decode cX7_walkNow 95 = .ok (.istore 6, 2) := by decide +kernel
theorem dX7_walkNow_97 : decode cX7_walkNow 97 = .ok (.aload_n 0, 1) := by decide +kernel
theorem dX7_walkNow_98 : decode cX7_walkNow 98 = .ok (.getfield 98, 3) := by decide +kernel
theorem dX7_walkNow_101 : decode cX7_walkNow 101 = .ok (.bipush 8, 2) := by decide +kernel
theorem dX7_walkNow_103 : decode cX7_walkNow 103 = .ok (.iload 6, 2) := by decide +kernel
theorem dX7_walkNow_105 : decode cX7_walkNow 105 = .ok (.isub, 1) := by decide +kernel
theorem dX7_walkNow_106 : decode cX7_walkNow 106 = .ok (.ishr, 1) := by decide +kernel
theorem dX7_walkNow_107 : decode cX7_walkNow 107 = .ok (.istore 7, 2) := by decide +kernel
theorem dX7_walkNow_109 : decode cX7_walkNow 109 = .ok (.aload_n 0, 1) := by decide +kernel
theorem dX7_walkNow_110 : decode cX7_walkNow 110 = .ok (.getfield 25, 3) := by decide +kernel
theorem dX7_walkNow_113 : decode cX7_walkNow 113 = .ok (.iload_n 2, 1) := by decide +kernel
theorem dX7_walkNow_114 : decode cX7_walkNow 114 = .ok (.sipush 256, 3) := by decide +kernel
theorem dX7_walkNow_117 : decode cX7_walkNow 117 = .ok (.iload 6, 2) := by decide +kernel
theorem dX7_walkNow_119 : decode cX7_walkNow 119 = .ok (.iconst 1, 1) := by decide +kernel
theorem dX7_walkNow_120 : decode cX7_walkNow 120 = .ok (.iadd, 1) := by decide +kernel
theorem dX7_walkNow_121 : decode cX7_walkNow 121 = .ok (.imul, 1) := by decide +kernel
theorem dX7_walkNow_122 : decode cX7_walkNow 122 = .ok (.iconst 2, 1) := by decide +kernel
theorem dX7_walkNow_123 : decode cX7_walkNow 123 = .ok (.iload 7, 2) := by decide +kernel
theorem dX7_walkNow_125 : decode cX7_walkNow 125 = .ok (.imul, 1) := by decide +kernel
theorem dX7_walkNow_126 : decode cX7_walkNow 126 = .ok (.iadd, 1) := by decide +kernel
theorem dX7_walkNow_127 : decode cX7_walkNow 127 = .ok (.iconst 1, 1) := by decide +kernel
theorem dX7_walkNow_128 : decode cX7_walkNow 128 = .ok (.iadd, 1) := by decide +kernel
theorem dX7_walkNow_129 : decode cX7_walkNow 129 = .ok (.iastore, 1) := by decide +kernel
theorem dX7_walkNow_130 : decode cX7_walkNow 130 = .ok (.aload_n 0, 1) := by decide +kernel
theorem dX7_walkNow_131 : decode cX7_walkNow 131 = .ok (.getfield 25, 3) := by decide +kernel
theorem dX7_walkNow_134 : decode cX7_walkNow 134 = .ok (.iload_n 2, 1) := by decide +kernel
theorem dX7_walkNow_135 : decode cX7_walkNow 135 = .ok (.iconst 1, 1) := by decide +kernel
theorem dX7_walkNow_136 : decode cX7_walkNow 136 = .ok (.iadd, 1) := by decide +kernel
theorem dX7_walkNow_137 : decode cX7_walkNow 137 = .ok (.sipush 256, 3) := by decide +kernel
theorem dX7_walkNow_140 : decode cX7_walkNow 140 = .ok (.iload 6, 2) := by decide +kernel
theorem dX7_walkNow_142 : decode cX7_walkNow 142 = .ok (.iconst 1, 1) := by decide +kernel
theorem dX7_walkNow_143 : decode cX7_walkNow 143 = .ok (.iadd, 1) := by decide +kernel
theorem dX7_walkNow_144 : decode cX7_walkNow 144 = .ok (.imul, 1) := by decide +kernel
theorem dX7_walkNow_145 : decode cX7_walkNow 145 = .ok (.iconst 2, 1) := by decide +kernel
theorem dX7_walkNow_146 : decode cX7_walkNow 146 = .ok (.iload 7, 2) := by decide +kernel
theorem dX7_walkNow_148 : decode cX7_walkNow 148 = .ok (.imul, 1) := by decide +kernel
theorem dX7_walkNow_149 : decode cX7_walkNow 149 = .ok (.iadd, 1) := by decide +kernel
theorem dX7_walkNow_150 : decode cX7_walkNow 150 = .ok (.iastore, 1) := by decide +kernel
theorem dX7_walkNow_151 : decode cX7_walkNow 151 = .ok (.iinc 2 2, 3) := by decide +kernel
theorem dX7_walkNow_154 : decode cX7_walkNow 154 = .ok (.goto (-140), 3) := by decide +kernel
theorem dX7_walkNow_157 : decode cX7_walkNow 157 = .ok (.return_, 1) := by decide +kernel
theorem dX7_walk_0 : decode cX7_walk 0 = .ok (.aload_n 0, 1) := by decide +kernel
theorem dX7_walk_1 : decode cX7_walk 1 = .ok (.invokevirtual 60, 3) := by decide +kernel
theorem dX7_walk_4 : decode cX7_walk 4 = .ok (.aload_n 0, 1) := by decide +kernel
theorem dX7_walk_5 : decode cX7_walk 5 = .ok (.getfield 7, 3) := by decide +kernel
theorem dX7_walk_8 : decode cX7_walk 8 = .ok (.bipush 8, 2) := by decide +kernel
theorem dX7_walk_10 : decode cX7_walk 10 = .ok (.iaload, 1) := by decide +kernel
theorem dX7_walk_11 : decode cX7_walk 11 = .ok (.istore_n 2, 1) := by decide +kernel
theorem dX7_walk_12 : decode cX7_walk 12 = .ok (.aload_n 0, 1) := by decide +kernel
theorem dX7_walk_13 : decode cX7_walk 13 = .ok (.iload_n 1, 1) := by decide +kernel
theorem dX7_walk_14 : decode cX7_walk 14 = .ok (.invokevirtual 135, 3) := by decide +kernel
theorem dX7_walk_17 : decode cX7_walk 17 = .ok (.aload_n 0, 1) := by decide +kernel
theorem dX7_walk_18 : decode cX7_walk 18 = .ok (.getfield 7, 3) := by decide +kernel
theorem dX7_walk_21 : decode cX7_walk 21 = .ok (.bipush 8, 2) := by decide +kernel
theorem dX7_walk_23 : decode cX7_walk 23 = .ok (.iaload, 1) := by decide +kernel
theorem dX7_walk_24 : decode cX7_walk 24 = .ok (.iload_n 2, 1) := by decide +kernel
theorem dX7_walk_25 : decode cX7_walk 25 = .ok (.isub, 1) := by decide +kernel
theorem dX7_walk_26 : decode cX7_walk 26 = .ok (.ireturn, 1) := by decide +kernel
theorem dX7_draw_0 : decode cX7_draw 0 = .ok (.aload_n 0, 1) := by decide +kernel
theorem dX7_draw_1 : decode cX7_draw 1 = .ok (.getfield 7, 3) := by decide +kernel
theorem dX7_draw_4 : decode cX7_draw 4 = .ok (.iconst 4, 1) := by decide +kernel
theorem dX7_draw_5 : decode cX7_draw 5 = .ok (.aload_n 0, 1) := by decide +kernel
theorem dX7_draw_6 : decode cX7_draw 6 = .ok (.getfield 7, 3) := by decide +kernel
theorem dX7_draw_9 : decode cX7_draw 9 = .ok (.iconst 4, 1) := by decide +kernel
theorem dX7_draw_10 : decode cX7_draw 10 = .ok (.iaload, 1) := by decide +kernel
theorem dX7_draw_11 : decode cX7_draw 11 = .ok (.i2l, 1) := by decide +kernel
theorem dX7_draw_12 : decode cX7_draw 12 = .ok (.ldc2_w 139, 3) := by decide +kernel
theorem dX7_draw_15 : decode cX7_draw 15 = .ok (.lmul, 1) := by decide +kernel
theorem dX7_draw_16 : decode cX7_draw 16 = .ok (.ldc2_w 141, 3) := by decide +kernel
theorem dX7_draw_19 : decode cX7_draw 19 = .ok (.ladd, 1) := by decide +kernel
theorem dX7_draw_20 : decode cX7_draw 20 = .ok (.ldc2_w 143, 3) := by decide +kernel
theorem dX7_draw_23 : decode cX7_draw 23 = .ok (.lrem, 1) := by decide +kernel
theorem dX7_draw_24 : decode cX7_draw 24 = .ok (.l2i, 1) := by decide +kernel
theorem dX7_draw_25 : decode cX7_draw 25 = .ok (.iastore, 1) := by decide +kernel
theorem dX7_draw_26 : decode cX7_draw 26 = .ok (.aload_n 0, 1) := by decide +kernel
theorem dX7_draw_27 : decode cX7_draw 27 = .ok (.getfield 7, 3) := by decide +kernel
theorem dX7_draw_30 : decode cX7_draw 30 = .ok (.iconst 4, 1) := by decide +kernel
theorem dX7_draw_31 : decode cX7_draw 31 = .ok (.iaload, 1) := by decide +kernel
theorem dX7_draw_32 : decode cX7_draw 32 = .ok (.ldc 145, 2) := by decide +kernel
theorem dX7_draw_34 : decode cX7_draw 34 = .ok (.idiv, 1) := by decide +kernel
theorem dX7_draw_35 : decode cX7_draw 35 = .ok (.iload_n 1, 1) := by decide +kernel
theorem dX7_draw_36 : decode cX7_draw 36 = .ok (.irem, 1) := by decide +kernel
theorem dX7_draw_37 : decode cX7_draw 37 = .ok (.ireturn, 1) := by decide +kernel
theorem dX7_frameNow_0 : decode cX7_frameNow 0 = .ok (.iconst 0, 1) := by decide +kernel
theorem dX7_frameNow_1 : decode cX7_frameNow 1 = .ok (.istore_n 2, 1) := by decide +kernel
theorem dX7_frameNow_2 : decode cX7_frameNow 2 = .ok (.iconst 0, 1) := by decide +kernel
theorem dX7_frameNow_3 : decode cX7_frameNow 3 = .ok (.istore_n 3, 1) := by decide +kernel
theorem dX7_frameNow_4 : decode cX7_frameNow 4 = .ok (.iload_n 3, 1) := by decide +kernel
theorem dX7_frameNow_5 : decode cX7_frameNow 5 = .ok (.aload_n 0, 1) := by decide +kernel
theorem dX7_frameNow_6 : decode cX7_frameNow 6 = .ok (.getfield 7, 3) := by decide +kernel
theorem dX7_frameNow_9 : decode cX7_frameNow 9 = .ok (.iconst 0, 1) := by decide +kernel
theorem dX7_frameNow_10 : decode cX7_frameNow 10 = .ok (.iaload, 1) := by decide +kernel
theorem dX7_frameNow_11 : decode cX7_frameNow 11 = .ok (.if_icmp .ge 45, 3) := by decide +kernel
theorem dX7_frameNow_14 : decode cX7_frameNow 14 = .ok (.aload_n 0, 1) := by decide +kernel
theorem dX7_frameNow_15 : decode cX7_frameNow 15 = .ok (.iload_n 3, 1) := by decide +kernel
theorem dX7_frameNow_16 : decode cX7_frameNow 16 = .ok (.iconst 1, 1) := by decide +kernel
theorem dX7_frameNow_17 : decode cX7_frameNow 17 = .ok (.invokevirtual 40, 3) := by decide +kernel
theorem dX7_frameNow_20 : decode cX7_frameNow 20 = .ok (.iconst 1, 1) := by decide +kernel
theorem dX7_frameNow_21 : decode cX7_frameNow 21 = .ok (.if_icmp .ne 29, 3) := by decide +kernel
theorem dX7_frameNow_24 : decode cX7_frameNow 24 = .ok (.aload_n 0, 1) := by decide +kernel
theorem dX7_frameNow_25 : decode cX7_frameNow 25 = .ok (.getfield 28, 3) := by decide +kernel
theorem dX7_frameNow_28 : decode cX7_frameNow 28 = .ok (.iload_n 2, 1) := by decide +kernel
theorem dX7_frameNow_29 : decode cX7_frameNow 29 = .ok (.aload_n 0, 1) := by decide +kernel
theorem dX7_frameNow_30 : decode cX7_frameNow 30 = .ok (.iload_n 3, 1) := by decide +kernel
theorem dX7_frameNow_31 : decode cX7_frameNow 31 = .ok (.iconst 0, 1) := by decide +kernel
theorem dX7_frameNow_32 : decode cX7_frameNow 32 = .ok (.invokevirtual 40, 3) := by decide +kernel
theorem dX7_frameNow_35 : decode cX7_frameNow 35 = .ok (.iastore, 1) := by decide +kernel
theorem dX7_frameNow_36 : decode cX7_frameNow 36 = .ok (.aload_n 0, 1) := by decide +kernel
theorem dX7_frameNow_37 : decode cX7_frameNow 37 = .ok (.getfield 31, 3) := by decide +kernel
theorem dX7_frameNow_40 : decode cX7_frameNow 40 = .ok (.iload_n 2, 1) := by decide +kernel
theorem dX7_frameNow_41 : decode cX7_frameNow 41 = .ok (.aload_n 0, 1) := by decide +kernel
theorem dX7_frameNow_42 : decode cX7_frameNow 42 = .ok (.iload_n 1, 1) := by decide +kernel
theorem dX7_frameNow_43 : decode cX7_frameNow 43 = .ok (.invokevirtual 146, 3) := by decide +kernel
theorem dX7_frameNow_46 : decode cX7_frameNow 46 = .ok (.iastore, 1) := by decide +kernel
theorem dX7_frameNow_47 : decode cX7_frameNow 47 = .ok (.iinc 2 1, 3) := by decide +kernel
theorem dX7_frameNow_50 : decode cX7_frameNow 50 = .ok (.iinc 3 1, 3) := by decide +kernel
theorem dX7_frameNow_53 : decode cX7_frameNow 53 = .ok (.goto (-49), 3) := by decide +kernel
theorem dX7_frameNow_56 : decode cX7_frameNow 56 = .ok (.aload_n 0, 1) := by decide +kernel
theorem dX7_frameNow_57 : decode cX7_frameNow 57 = .ok (.getfield 7, 3) := by decide +kernel
theorem dX7_frameNow_60 : decode cX7_frameNow 60 = .ok (.bipush 11, 2) := by decide +kernel
theorem dX7_frameNow_62 : decode cX7_frameNow 62 = .ok (.dup2, 1) := by decide +kernel
theorem dX7_frameNow_63 : decode cX7_frameNow 63 = .ok (.iaload, 1) := by decide +kernel
theorem dX7_frameNow_64 : decode cX7_frameNow 64 = .ok (.iconst 1, 1) := by decide +kernel
theorem dX7_frameNow_65 : decode cX7_frameNow 65 = .ok (.iadd, 1) := by decide +kernel
theorem dX7_frameNow_66 : decode cX7_frameNow 66 = .ok (.iastore, 1) := by decide +kernel
theorem dX7_frameNow_67 : decode cX7_frameNow 67 = .ok (.aload_n 0, 1) := by decide +kernel
theorem dX7_frameNow_68 : decode cX7_frameNow 68 = .ok (.getfield 7, 3) := by decide +kernel
theorem dX7_frameNow_71 : decode cX7_frameNow 71 = .ok (.bipush 10, 2) := by decide +kernel
theorem dX7_frameNow_73 : decode cX7_frameNow 73 = .ok (.dup2, 1) := by decide +kernel
theorem dX7_frameNow_74 : decode cX7_frameNow 74 = .ok (.iaload, 1) := by decide +kernel
theorem dX7_frameNow_75 : decode cX7_frameNow 75 = .ok (.iconst 4, 1) := by decide +kernel
theorem dX7_frameNow_76 : decode cX7_frameNow 76 = .ok (.iadd, 1) := by decide +kernel
theorem dX7_frameNow_77 : decode cX7_frameNow 77 = .ok (.iastore, 1) := by decide +kernel
theorem dX7_frameNow_78 : decode cX7_frameNow 78 = .ok (.iconst 0, 1) := by decide +kernel
theorem dX7_frameNow_79 : decode cX7_frameNow 79 = .ok (.istore_n 3, 1) := by decide +kernel
theorem dX7_frameNow_80 : decode cX7_frameNow 80 = .ok (.iload_n 3, 1) := by decide +kernel
theorem dX7_frameNow_81 : decode cX7_frameNow 81 = .ok (.iload_n 1, 1) := by decide +kernel
theorem dX7_frameNow_82 : decode cX7_frameNow 82 = .ok (.if_icmp .ge 104, 3) := by decide +kernel
theorem dX7_frameNow_85 : decode cX7_frameNow 85 = .ok (.aload_n 0, 1) := by decide +kernel
theorem dX7_frameNow_86 : decode cX7_frameNow 86 = .ok (.invokevirtual 113, 3) := by decide +kernel
theorem dX7_frameNow_89 : decode cX7_frameNow 89 = .ok (.iconst 0, 1) := by decide +kernel
theorem dX7_frameNow_90 : decode cX7_frameNow 90 = .ok (.istore 4, 2) := by decide +kernel
theorem dX7_frameNow_92 : decode cX7_frameNow 92 = .ok (.iload 4, 2) := by decide +kernel
theorem dX7_frameNow_94 : decode cX7_frameNow 94 = .ok (.iload_n 2, 1) := by decide +kernel
theorem dX7_frameNow_95 : decode cX7_frameNow 95 = .ok (.if_icmp .ge 46, 3) := by decide +kernel
theorem dX7_frameNow_98 : decode cX7_frameNow 98 = .ok (.aload_n 0, 1) := by decide +kernel
theorem dX7_frameNow_99 : decode cX7_frameNow 99 = .ok (.aload_n 0, 1) := by decide +kernel
theorem dX7_frameNow_100 : decode cX7_frameNow 100 = .ok (.getfield 28, 3) := by decide +kernel
theorem dX7_frameNow_103 : decode cX7_frameNow 103 = .ok (.iload 4, 2) := by decide +kernel
theorem dX7_frameNow_105 : decode cX7_frameNow 105 = .ok (.iaload, 1) := by decide +kernel
theorem dX7_frameNow_106 : decode cX7_frameNow 106 = .ok (.invokevirtual 67, 3) := by decide +kernel
theorem dX7_frameNow_109 : decode cX7_frameNow 109 = .ok (.istore 5, 2) := by decide +kernel
theorem dX7_frameNow_111 : decode cX7_frameNow 111 = .ok (.aload_n 0, 1) := by decide +kernel
theorem dX7_frameNow_112 : decode cX7_frameNow 112 = .ok (.getfield 31, 3) := by decide +kernel
theorem dX7_frameNow_115 : decode cX7_frameNow 115 = .ok (.iload 4, 2) := by decide +kernel
theorem dX7_frameNow_117 : decode cX7_frameNow 117 = .ok (.iaload, 1) := by decide +kernel
theorem dX7_frameNow_118 : decode cX7_frameNow 118 = .ok (.iload_n 3, 1) := by decide +kernel
theorem dX7_frameNow_119 : decode cX7_frameNow 119 = .ok (.if_icmp .ne 16, 3) := by decide +kernel
theorem dX7_frameNow_122 : decode cX7_frameNow 122 = .ok (.iload 5, 2) := by decide +kernel
theorem dX7_frameNow_124 : decode cX7_frameNow 124 = .ok (.bipush (-5), 2) := by decide +kernel
theorem dX7_frameNow_126 : decode cX7_frameNow 126 = .ok (.if_icmp .eq 9, 3) := by decide +kernel
theorem dX7_frameNow_129 : decode cX7_frameNow 129 = .ok (.aload_n 0, 1) := by decide +kernel
theorem dX7_frameNow_130 : decode cX7_frameNow 130 = .ok (.iload 5, 2) := by decide +kernel
theorem dX7_frameNow_132 : decode cX7_frameNow 132 = .ok (.invokevirtual 119, 3) := by decide +kernel
theorem dX7_frameNow_135 : decode cX7_frameNow 135 = .ok (.iinc 4 1, 3) := by decide +kernel
theorem dX7_frameNow_138 : decode cX7_frameNow 138 = .ok (.goto (-46), 3) := by decide +kernel
theorem dX7_frameNow_141 : decode cX7_frameNow 141 = .ok (.aload_n 0, 1) := by decide +kernel
theorem dX7_frameNow_142 : decode cX7_frameNow 142 = .ok (.getfield 7, 3) := by decide +kernel
theorem dX7_frameNow_145 : decode cX7_frameNow 145 = .ok (.bipush 6, 2) := by decide +kernel
theorem dX7_frameNow_147 : decode cX7_frameNow 147 = .ok (.dup2, 1) := by decide +kernel
theorem dX7_frameNow_148 : decode cX7_frameNow 148 = .ok (.iaload, 1) := by decide +kernel
theorem dX7_frameNow_149 : decode cX7_frameNow 149 = .ok (.iconst 1, 1) := by decide +kernel
theorem dX7_frameNow_150 : decode cX7_frameNow 150 = .ok (.iadd, 1) := by decide +kernel
theorem dX7_frameNow_151 : decode cX7_frameNow 151 = .ok (.iastore, 1) := by decide +kernel
theorem dX7_frameNow_152 : decode cX7_frameNow 152 = .ok (.aload_n 0, 1) := by decide +kernel
theorem dX7_frameNow_153 : decode cX7_frameNow 153 = .ok (.getfield 7, 3) := by decide +kernel
theorem dX7_frameNow_156 : decode cX7_frameNow 156 = .ok (.bipush 10, 2) := by decide +kernel
theorem dX7_frameNow_158 : decode cX7_frameNow 158 = .ok (.dup2, 1) := by decide +kernel
theorem dX7_frameNow_159 : decode cX7_frameNow 159 = .ok (.iaload, 1) := by decide +kernel
theorem dX7_frameNow_160 : decode cX7_frameNow 160 = .ok (.aload_n 0, 1) := by decide +kernel
theorem dX7_frameNow_161 : decode cX7_frameNow 161 = .ok (.getfield 92, 3) := by decide +kernel
theorem dX7_frameNow_164 : decode cX7_frameNow 164 = .ok (.ifCond .ne 7, 3) := by decide +kernel
theorem dX7_frameNow_167 : decode cX7_frameNow 167 = .ok (.iconst 1, 1) := by decide +kernel
theorem dX7_frameNow_168 : decode cX7_frameNow 168 = .ok (.goto 5, 3) := by decide +kernel
theorem dX7_frameNow_171 : decode cX7_frameNow 171 = .ok (.bipush 9, 2) := by decide +kernel
theorem dX7_frameNow_173 : decode cX7_frameNow 173 = .ok (.iadd, 1) := by decide +kernel
theorem dX7_frameNow_174 : decode cX7_frameNow 174 = .ok (.iastore, 1) := by decide +kernel
theorem dX7_frameNow_175 : decode cX7_frameNow 175 = .ok (.aload_n 0, 1) := by decide +kernel
theorem dX7_frameNow_176 : decode cX7_frameNow 176 = .ok (.invokevirtual 122, 3) := by decide +kernel
theorem dX7_frameNow_179 : decode cX7_frameNow 179 = .ok (.pop, 1) := by decide +kernel
theorem dX7_frameNow_180 : decode cX7_frameNow 180 = .ok (.iinc 3 1, 3) := by decide +kernel
theorem dX7_frameNow_183 : decode cX7_frameNow 183 = .ok (.goto (-103), 3) := by decide +kernel
theorem dX7_frameNow_186 : decode cX7_frameNow 186 = .ok (.return_, 1) := by decide +kernel
theorem dX7_isSlots_0 : decode cX7_isSlots 0 = .ok (.iload_n 0, 1) := by decide +kernel
theorem dX7_isSlots_1 : decode cX7_isSlots 1 = .ok (.iconst 1, 1) := by decide +kernel
theorem dX7_isSlots_2 : decode cX7_isSlots 2 = .ok (.bipush 64, 2) := by decide +kernel
theorem dX7_isSlots_4 : decode cX7_isSlots 4 = .ok (.invokestatic 63, 3) := by decide +kernel
theorem dX7_isSlots_7 : decode cX7_isSlots 7 = .ok (.ireturn, 1) := by decide +kernel
theorem dX7_frame_0 : decode cX7_frame 0 = .ok (.iload_n 1, 1) := by decide +kernel
theorem dX7_frame_1 : decode cX7_frame 1 = .ok (.invokestatic 149, 3) := by decide +kernel
theorem dX7_frame_4 : decode cX7_frame 4 = .ok (.ifCond .ne 6, 3) := by decide +kernel
theorem dX7_frame_7 : decode cX7_frame 7 = .ok (.bipush (-2), 2) := by decide +kernel
theorem dX7_frame_9 : decode cX7_frame 9 = .ok (.ireturn, 1) := by decide +kernel
theorem dX7_frame_10 : decode cX7_frame 10 = .ok (.aload_n 0, 1) := by decide +kernel
theorem dX7_frame_11 : decode cX7_frame 11 = .ok (.invokevirtual 60, 3) := by decide +kernel
theorem dX7_frame_14 : decode cX7_frame 14 = .ok (.aload_n 0, 1) := by decide +kernel
theorem dX7_frame_15 : decode cX7_frame 15 = .ok (.getfield 7, 3) := by decide +kernel
theorem dX7_frame_18 : decode cX7_frame 18 = .ok (.bipush 8, 2) := by decide +kernel
theorem dX7_frame_20 : decode cX7_frame 20 = .ok (.iaload, 1) := by decide +kernel
theorem dX7_frame_21 : decode cX7_frame 21 = .ok (.istore_n 2, 1) := by decide +kernel
theorem dX7_frame_22 : decode cX7_frame 22 = .ok (.aload_n 0, 1) := by decide +kernel
theorem dX7_frame_23 : decode cX7_frame 23 = .ok (.iload_n 1, 1) := by decide +kernel
theorem dX7_frame_24 : decode cX7_frame 24 = .ok (.invokevirtual 153, 3) := by decide +kernel
theorem dX7_frame_27 : decode cX7_frame 27 = .ok (.aload_n 0, 1) := by decide +kernel
theorem dX7_frame_28 : decode cX7_frame 28 = .ok (.getfield 7, 3) := by decide +kernel
theorem dX7_frame_31 : decode cX7_frame 31 = .ok (.bipush 8, 2) := by decide +kernel
theorem dX7_frame_33 : decode cX7_frame 33 = .ok (.iaload, 1) := by decide +kernel
theorem dX7_frame_34 : decode cX7_frame 34 = .ok (.iload_n 2, 1) := by decide +kernel
theorem dX7_frame_35 : decode cX7_frame 35 = .ok (.isub, 1) := by decide +kernel
theorem dX7_frame_36 : decode cX7_frame 36 = .ok (.ireturn, 1) := by decide +kernel
theorem dX7_nextSize_0 : decode cX7_nextSize 0 = .ok (.aload_n 0, 1) := by decide +kernel
theorem dX7_nextSize_1 : decode cX7_nextSize 1 = .ok (.getfield 7, 3) := by decide +kernel
theorem dX7_nextSize_4 : decode cX7_nextSize 4 = .ok (.iconst 3, 1) := by decide +kernel
theorem dX7_nextSize_5 : decode cX7_nextSize 5 = .ok (.iaload, 1) := by decide +kernel
theorem dX7_nextSize_6 : decode cX7_nextSize 6 = .ok (.ifCond .ne 7, 3) := by decide +kernel
theorem dX7_nextSize_9 : decode cX7_nextSize 9 = .ok (.iload_n 1, 1) := by decide +kernel
theorem dX7_nextSize_10 : decode cX7_nextSize 10 = .ok (.goto 46, 3) := by decide +kernel
theorem dX7_nextSize_13 : decode cX7_nextSize 13 = .ok (.aload_n 0, 1) := by decide +kernel
theorem dX7_nextSize_14 : decode cX7_nextSize 14 = .ok (.getfield 7, 3) := by decide +kernel
theorem dX7_nextSize_17 : decode cX7_nextSize 17 = .ok (.iconst 3, 1) := by decide +kernel
theorem dX7_nextSize_18 : decode cX7_nextSize 18 = .ok (.iaload, 1) := by decide +kernel
theorem dX7_nextSize_19 : decode cX7_nextSize 19 = .ok (.iconst 1, 1) := by decide +kernel
theorem dX7_nextSize_20 : decode cX7_nextSize 20 = .ok (.if_icmp .ne 9, 3) := by decide +kernel
theorem dX7_nextSize_23 : decode cX7_nextSize 23 = .ok (.iconst 2, 1) := by decide +kernel
theorem dX7_nextSize_24 : decode cX7_nextSize 24 = .ok (.iload_n 3, 1) := by decide +kernel
theorem dX7_nextSize_25 : decode cX7_nextSize 25 = .ok (.imul, 1) := by decide +kernel
theorem dX7_nextSize_26 : decode cX7_nextSize 26 = .ok (.goto 30, 3) := by decide +kernel
theorem dX7_nextSize_29 : decode cX7_nextSize 29 = .ok (.iconst 2, 1) := by decide +kernel
theorem dX7_nextSize_30 : decode cX7_nextSize 30 = .ok (.iload_n 3, 1) := by decide +kernel
theorem dX7_nextSize_31 : decode cX7_nextSize 31 = .ok (.imul, 1) := by decide +kernel
theorem dX7_nextSize_32 : decode cX7_nextSize 32 = .ok (.iload_n 2, 1) := by decide +kernel
theorem dX7_nextSize_33 : decode cX7_nextSize 33 = .ok (.if_icmp .le 9, 3) := by decide +kernel
theorem dX7_nextSize_36 : decode cX7_nextSize 36 = .ok (.iconst 2, 1) := by decide +kernel
theorem dX7_nextSize_37 : decode cX7_nextSize 37 = .ok (.iload_n 2, 1) := by decide +kernel
theorem dX7_nextSize_38 : decode cX7_nextSize 38 = .ok (.imul, 1) := by decide +kernel
theorem dX7_nextSize_39 : decode cX7_nextSize 39 = .ok (.goto 17, 3) := by decide +kernel
theorem dX7_nextSize_42 : decode cX7_nextSize 42 = .ok (.iconst 4, 1) := by decide +kernel
theorem dX7_nextSize_43 : decode cX7_nextSize 43 = .ok (.iload_n 3, 1) := by decide +kernel
theorem dX7_nextSize_44 : decode cX7_nextSize 44 = .ok (.imul, 1) := by decide +kernel
theorem dX7_nextSize_45 : decode cX7_nextSize 45 = .ok (.iload_n 2, 1) := by decide +kernel
theorem dX7_nextSize_46 : decode cX7_nextSize 46 = .ok (.if_icmp .gt 9, 3) := by decide +kernel
theorem dX7_nextSize_49 : decode cX7_nextSize 49 = .ok (.iload_n 2, 1) := by decide +kernel
theorem dX7_nextSize_50 : decode cX7_nextSize 50 = .ok (.iconst 2, 1) := by decide +kernel
theorem dX7_nextSize_51 : decode cX7_nextSize 51 = .ok (.idiv, 1) := by decide +kernel
theorem dX7_nextSize_52 : decode cX7_nextSize 52 = .ok (.goto 4, 3) := by decide +kernel
theorem dX7_nextSize_55 : decode cX7_nextSize 55 = .ok (.iload_n 2, 1) := by decide +kernel
theorem dX7_nextSize_56 : decode cX7_nextSize 56 = .ok (.istore 4, 2) := by decide +kernel
theorem dX7_nextSize_58 : decode cX7_nextSize 58 = .ok (.iload 4, 2) := by decide +kernel
theorem dX7_nextSize_60 : decode cX7_nextSize 60 = .ok (.iconst 1, 1) := by decide +kernel
theorem dX7_nextSize_61 : decode cX7_nextSize 61 = .ok (.if_icmp .ge 7, 3) := by decide +kernel
theorem dX7_nextSize_64 : decode cX7_nextSize 64 = .ok (.iconst 1, 1) := by decide +kernel
theorem dX7_nextSize_65 : decode cX7_nextSize 65 = .ok (.goto 17, 3) := by decide +kernel
theorem dX7_nextSize_68 : decode cX7_nextSize 68 = .ok (.iload 4, 2) := by decide +kernel
theorem dX7_nextSize_70 : decode cX7_nextSize 70 = .ok (.bipush 64, 2) := by decide +kernel
theorem dX7_nextSize_72 : decode cX7_nextSize 72 = .ok (.if_icmp .le 8, 3) := by decide +kernel
theorem dX7_nextSize_75 : decode cX7_nextSize 75 = .ok (.bipush 64, 2) := by decide +kernel
theorem dX7_nextSize_77 : decode cX7_nextSize 77 = .ok (.goto 5, 3) := by decide +kernel
theorem dX7_nextSize_80 : decode cX7_nextSize 80 = .ok (.iload 4, 2) := by decide +kernel
theorem dX7_nextSize_82 : decode cX7_nextSize 82 = .ok (.ireturn, 1) := by decide +kernel
theorem dX7_roundsNow_0 : decode cX7_roundsNow 0 = .ok (.iconst 0, 1) := by decide +kernel
theorem dX7_roundsNow_1 : decode cX7_roundsNow 1 = .ok (.istore_n 2, 1) := by decide +kernel
theorem dX7_roundsNow_2 : decode cX7_roundsNow 2 = .ok (.iload_n 1, 1) := by decide +kernel
theorem dX7_roundsNow_3 : decode cX7_roundsNow 3 = .ok (.istore_n 3, 1) := by decide +kernel
theorem dX7_roundsNow_4 : decode cX7_roundsNow 4 = .ok (.iconst 1, 1) := by decide +kernel
theorem dX7_roundsNow_5 : decode cX7_roundsNow 5 = .ok (.istore 4, 2) := by decide +kernel
theorem dX7_roundsNow_7 : decode cX7_roundsNow 7 = .ok (.iload 4, 2) := by decide +kernel
theorem dX7_roundsNow_9 : decode cX7_roundsNow 9 = .ok (.ifCond .eq 62, 3) := by decide +kernel
theorem dX7_roundsNow_12 : decode cX7_roundsNow 12 = .ok (.aload_n 0, 1) := by decide +kernel
theorem dX7_roundsNow_13 : decode cX7_roundsNow 13 = .ok (.getfield 7, 3) := by decide +kernel
theorem dX7_roundsNow_16 : decode cX7_roundsNow 16 = .ok (.bipush 9, 2) := by decide +kernel
theorem dX7_roundsNow_18 : decode cX7_roundsNow 18 = .ok (.iaload, 1) := by decide +kernel
theorem dX7_roundsNow_19 : decode cX7_roundsNow 19 = .ok (.istore 5, 2) := by decide +kernel
theorem dX7_roundsNow_21 : decode cX7_roundsNow 21 = .ok (.aload_n 0, 1) := by decide +kernel
theorem dX7_roundsNow_22 : decode cX7_roundsNow 22 = .ok (.iload_n 3, 1) := by decide +kernel
theorem dX7_roundsNow_23 : decode cX7_roundsNow 23 = .ok (.invokevirtual 153, 3) := by decide +kernel
theorem dX7_roundsNow_26 : decode cX7_roundsNow 26 = .ok (.iinc 2 1, 3) := by decide +kernel
theorem dX7_roundsNow_29 : decode cX7_roundsNow 29 = .ok (.aload_n 0, 1) := by decide +kernel
theorem dX7_roundsNow_30 : decode cX7_roundsNow 30 = .ok (.getfield 7, 3) := by decide +kernel
theorem dX7_roundsNow_33 : decode cX7_roundsNow 33 = .ok (.bipush 9, 2) := by decide +kernel
theorem dX7_roundsNow_35 : decode cX7_roundsNow 35 = .ok (.iaload, 1) := by decide +kernel
theorem dX7_roundsNow_36 : decode cX7_roundsNow 36 = .ok (.iload 5, 2) := by decide +kernel
theorem dX7_roundsNow_38 : decode cX7_roundsNow 38 = .ok (.isub, 1) := by decide +kernel
theorem dX7_roundsNow_39 : decode cX7_roundsNow 39 = .ok (.istore 6, 2) := by decide +kernel
theorem dX7_roundsNow_41 : decode cX7_roundsNow 41 = .ok (.iload 6, 2) := by decide +kernel
theorem dX7_roundsNow_43 : decode cX7_roundsNow 43 = .ok (.ifCond .le 13, 3) := by decide +kernel
theorem dX7_roundsNow_46 : decode cX7_roundsNow 46 = .ok (.iload_n 2, 1) := by decide +kernel
theorem dX7_roundsNow_47 : decode cX7_roundsNow 47 = .ok (.bipush 40, 2) := by decide +kernel
theorem dX7_roundsNow_49 : decode cX7_roundsNow 49 = .ok (.if_icmp .ge 7, 3) := by decide +kernel
theorem dX7_roundsNow_52 : decode cX7_roundsNow 52 = .ok (.iconst 1, 1) := by decide +kernel
theorem dX7_roundsNow_53 : decode cX7_roundsNow 53 = .ok (.goto 4, 3) := by decide +kernel
theorem dX7_roundsNow_56 : decode cX7_roundsNow 56 = .ok (.iconst 0, 1) := by decide +kernel
theorem dX7_roundsNow_57 : decode cX7_roundsNow 57 = .ok (.istore 4, 2) := by decide +kernel
theorem dX7_roundsNow_59 : decode cX7_roundsNow 59 = .ok (.aload_n 0, 1) := by decide +kernel
theorem dX7_roundsNow_60 : decode cX7_roundsNow 60 = .ok (.iload_n 1, 1) := by decide +kernel
theorem dX7_roundsNow_61 : decode cX7_roundsNow 61 = .ok (.iload_n 3, 1) := by decide +kernel
theorem dX7_roundsNow_62 : decode cX7_roundsNow 62 = .ok (.iload 6, 2) := by decide +kernel
theorem dX7_roundsNow_64 : decode cX7_roundsNow 64 = .ok (.invokevirtual 156, 3) := by decide +kernel
theorem dX7_roundsNow_67 : decode cX7_roundsNow 67 = .ok (.istore_n 3, 1) := by decide +kernel
theorem dX7_roundsNow_68 : decode cX7_roundsNow 68 = .ok (.goto (-61), 3) := by decide +kernel
theorem dX7_roundsNow_71 : decode cX7_roundsNow 71 = .ok (.iload_n 2, 1) := by decide +kernel
theorem dX7_roundsNow_72 : decode cX7_roundsNow 72 = .ok (.ireturn, 1) := by decide +kernel
theorem dX7_rounds_0 : decode cX7_rounds 0 = .ok (.iload_n 1, 1) := by decide +kernel
theorem dX7_rounds_1 : decode cX7_rounds 1 = .ok (.invokestatic 149, 3) := by decide +kernel
theorem dX7_rounds_4 : decode cX7_rounds 4 = .ok (.ifCond .ne 6, 3) := by decide +kernel
theorem dX7_rounds_7 : decode cX7_rounds 7 = .ok (.bipush (-2), 2) := by decide +kernel
theorem dX7_rounds_9 : decode cX7_rounds 9 = .ok (.ireturn, 1) := by decide +kernel
theorem dX7_rounds_10 : decode cX7_rounds 10 = .ok (.aload_n 0, 1) := by decide +kernel
theorem dX7_rounds_11 : decode cX7_rounds 11 = .ok (.invokevirtual 60, 3) := by decide +kernel
theorem dX7_rounds_14 : decode cX7_rounds 14 = .ok (.aload_n 0, 1) := by decide +kernel
theorem dX7_rounds_15 : decode cX7_rounds 15 = .ok (.iload_n 1, 1) := by decide +kernel
theorem dX7_rounds_16 : decode cX7_rounds 16 = .ok (.invokevirtual 160, 3) := by decide +kernel
theorem dX7_rounds_19 : decode cX7_rounds 19 = .ok (.ireturn, 1) := by decide +kernel
theorem dX7_type_0 : decode cX7_type 0 = .ok (.aload_n 0, 1) := by decide +kernel
theorem dX7_type_1 : decode cX7_type 1 = .ok (.getfield 163, 3) := by decide +kernel
theorem dX7_type_4 : decode cX7_type 4 = .ok (.bipush 60, 2) := by decide +kernel
theorem dX7_type_6 : decode cX7_type 6 = .ok (.if_icmp .ne 6, 3) := by decide +kernel
theorem dX7_type_9 : decode cX7_type 9 = .ok (.bipush (-3), 2) := by decide +kernel
theorem dX7_type_11 : decode cX7_type 11 = .ok (.ireturn, 1) := by decide +kernel
theorem dX7_type_12 : decode cX7_type 12 = .ok (.aload_n 0, 1) := by decide +kernel
theorem dX7_type_13 : decode cX7_type 13 = .ok (.getfield 22, 3) := by decide +kernel
theorem dX7_type_16 : decode cX7_type 16 = .ok (.aload_n 0, 1) := by decide +kernel
theorem dX7_type_17 : decode cX7_type 17 = .ok (.getfield 163, 3) := by decide +kernel
theorem dX7_type_20 : decode cX7_type 20 = .ok (.iload_n 1, 1) := by decide +kernel
theorem dX7_type_21 : decode cX7_type 21 = .ok (.iastore, 1) := by decide +kernel
theorem dX7_type_22 : decode cX7_type 22 = .ok (.aload_n 0, 1) := by decide +kernel
theorem dX7_type_23 : decode cX7_type 23 = .ok (.dup, 1) := by decide +kernel
theorem dX7_type_24 : decode cX7_type 24 = .ok (.getfield 163, 3) := by decide +kernel
theorem dX7_type_27 : decode cX7_type 27 = .ok (.iconst 1, 1) := by decide +kernel
theorem dX7_type_28 : decode cX7_type 28 = .ok (.iadd, 1) := by decide +kernel
theorem dX7_type_29 : decode cX7_type 29 = .ok (.putfield 163, 3) := by decide +kernel
theorem dX7_type_32 : decode cX7_type 32 = .ok (.aload_n 0, 1) := by decide +kernel
theorem dX7_type_33 : decode cX7_type 33 = .ok (.getfield 163, 3) := by decide +kernel
theorem dX7_type_36 : decode cX7_type 36 = .ok (.ireturn, 1) := by decide +kernel
theorem dX7_clearText_0 : decode cX7_clearText 0 = .ok (.aload_n 0, 1) := by decide +kernel
theorem dX7_clearText_1 : decode cX7_clearText 1 = .ok (.getfield 163, 3) := by decide +kernel
theorem dX7_clearText_4 : decode cX7_clearText 4 = .ok (.istore_n 1, 1) := by decide +kernel
theorem dX7_clearText_5 : decode cX7_clearText 5 = .ok (.aload_n 0, 1) := by decide +kernel
theorem dX7_clearText_6 : decode cX7_clearText 6 = .ok (.iconst 0, 1) := by decide +kernel
theorem dX7_clearText_7 : decode cX7_clearText 7 = .ok (.putfield 163, 3) := by decide +kernel
theorem dX7_clearText_10 : decode cX7_clearText 10 = .ok (.iload_n 1, 1) := by decide +kernel
theorem dX7_clearText_11 : decode cX7_clearText 11 = .ok (.ireturn, 1) := by decide +kernel
theorem dX7_sees_0 : decode cX7_sees 0 = .ok (.aload_n 0, 1) := by decide +kernel
theorem dX7_sees_1 : decode cX7_sees 1 = .ok (.getfield 166, 3) := by decide +kernel
theorem dX7_sees_4 : decode cX7_sees 4 = .ok (.aload_n 0, 1) := by decide +kernel
theorem dX7_sees_5 : decode cX7_sees 5 = .ok (.getfield 163, 3) := by decide +kernel
theorem dX7_sees_8 : decode cX7_sees 8 = .ok (.if_icmp .ge 24, 3) := by decide +kernel
theorem dX7_sees_11 : decode cX7_sees 11 = .ok (.aload_n 0, 1) := by decide +kernel
theorem dX7_sees_12 : decode cX7_sees 12 = .ok (.getfield 22, 3) := by decide +kernel
theorem dX7_sees_15 : decode cX7_sees 15 = .ok (.aload_n 0, 1) := by decide +kernel
theorem dX7_sees_16 : decode cX7_sees 16 = .ok (.getfield 166, 3) := by decide +kernel
theorem dX7_sees_19 : decode cX7_sees 19 = .ok (.iaload, 1) := by decide +kernel
theorem dX7_sees_20 : decode cX7_sees 20 = .ok (.iload_n 1, 1) := by decide +kernel
theorem dX7_sees_21 : decode cX7_sees 21 = .ok (.iload_n 2, 1) := by decide +kernel
theorem dX7_sees_22 : decode cX7_sees 22 = .ok (.invokestatic 63, 3) := by decide +kernel
theorem dX7_sees_25 : decode cX7_sees 25 = .ok (.ifCond .eq 7, 3) := by decide +kernel
theorem dX7_sees_28 : decode cX7_sees 28 = .ok (.iconst 1, 1) := by decide +kernel
theorem dX7_sees_29 : decode cX7_sees 29 = .ok (.goto 4, 3) := by decide +kernel
theorem dX7_sees_32 : decode cX7_sees 32 = .ok (.iconst 0, 1) := by decide +kernel
theorem dX7_sees_33 : decode cX7_sees 33 = .ok (.ireturn, 1) := by decide +kernel
theorem dX7_takes_0 : decode cX7_takes 0 = .ok (.aload_n 0, 1) := by decide +kernel
theorem dX7_takes_1 : decode cX7_takes 1 = .ok (.iload_n 1, 1) := by decide +kernel
theorem dX7_takes_2 : decode cX7_takes 2 = .ok (.iload_n 1, 1) := by decide +kernel
theorem dX7_takes_3 : decode cX7_takes 3 = .ok (.invokevirtual 169, 3) := by decide +kernel
theorem dX7_takes_6 : decode cX7_takes 6 = .ok (.istore_n 2, 1) := by decide +kernel
theorem dX7_takes_7 : decode cX7_takes 7 = .ok (.aload_n 0, 1) := by decide +kernel
theorem dX7_takes_8 : decode cX7_takes 8 = .ok (.dup, 1) := by decide +kernel
theorem dX7_takes_9 : decode cX7_takes 9 = .ok (.getfield 166, 3) := by decide +kernel
theorem dX7_takes_12 : decode cX7_takes 12 = .ok (.iload_n 2, 1) := by decide +kernel
theorem dX7_takes_13 : decode cX7_takes 13 = .ok (.ifCond .eq 7, 3) := by decide +kernel
theorem dX7_takes_16 : decode cX7_takes 16 = .ok (.iconst 1, 1) := by decide +kernel
theorem dX7_takes_17 : decode cX7_takes 17 = .ok (.goto 4, 3) := by decide +kernel
theorem dX7_takes_20 : decode cX7_takes 20 = .ok (.iconst 0, 1) := by decide +kernel
theorem dX7_takes_21 : decode cX7_takes 21 = .ok (.iadd, 1) := by decide +kernel
theorem dX7_takes_22 : decode cX7_takes 22 = .ok (.putfield 166, 3) := by decide +kernel
theorem dX7_takes_25 : decode cX7_takes 25 = .ok (.iload_n 2, 1) := by decide +kernel
theorem dX7_takes_26 : decode cX7_takes 26 = .ok (.ireturn, 1) := by decide +kernel
theorem dX7_number_0 : decode cX7_number 0 = .ok (.aload_n 0, 1) := by decide +kernel
theorem dX7_number_1 : decode cX7_number 1 = .ok (.bipush 48, 2) := by decide +kernel
theorem dX7_number_3 : decode cX7_number 3 = .ok (.iload_n 1, 1) := by decide +kernel
theorem dX7_number_4 : decode cX7_number 4 = .ok (.iadd, 1) := by decide +kernel
theorem dX7_number_5 : decode cX7_number 5 = .ok (.bipush 57, 2) := by decide +kernel
theorem dX7_number_7 : decode cX7_number 7 = .ok (.invokevirtual 169, 3) := by decide +kernel
theorem dX7_number_10 : decode cX7_number 10 = .ok (.ifCond .ne 6, 3) := by decide +kernel
theorem dX7_number_13 : decode cX7_number 13 = .ok (.bipush (-5), 2) := by decide +kernel
theorem dX7_number_15 : decode cX7_number 15 = .ok (.ireturn, 1) := by decide +kernel
theorem dX7_number_16 : decode cX7_number 16 = .ok (.aload_n 0, 1) := by decide +kernel
theorem dX7_number_17 : decode cX7_number 17 = .ok (.getfield 22, 3) := by decide +kernel
theorem dX7_number_20 : decode cX7_number 20 = .ok (.aload_n 0, 1) := by decide +kernel
theorem dX7_number_21 : decode cX7_number 21 = .ok (.getfield 166, 3) := by decide +kernel
theorem dX7_number_24 : decode cX7_number 24 = .ok (.iaload, 1) := by decide +kernel
theorem dX7_number_25 : decode cX7_number 25 = .ok (.bipush 48, 2) := by decide +kernel
theorem dX7_number_27 : decode cX7_number 27 = .ok (.isub, 1) := by decide +kernel
theorem dX7_number_28 : decode cX7_number 28 = .ok (.istore_n 3, 1) := by decide +kernel
theorem dX7_number_29 : decode cX7_number 29 = .ok (.aload_n 0, 1) := by decide +kernel
theorem dX7_number_30 : decode cX7_number 30 = .ok (.dup, 1) := by decide +kernel
theorem dX7_number_31 : decode cX7_number 31 = .ok (.getfield 166, 3) := by decide +kernel
theorem dX7_number_34 : decode cX7_number 34 = .ok (.iconst 1, 1) := by decide +kernel
theorem dX7_number_35 : decode cX7_number 35 = .ok (.iadd, 1) := by decide +kernel
theorem dX7_number_36 : decode cX7_number 36 = .ok (.putfield 166, 3) := by decide +kernel
theorem dX7_number_39 : decode cX7_number 39 = .ok (.iload_n 3, 1) := by decide +kernel
theorem dX7_number_40 : decode cX7_number 40 = .ok (.ifCond .le 66, 3) := by decide +kernel
theorem dX7_number_43 : decode cX7_number 43 = .ok (.aload_n 0, 1) := by decide +kernel
theorem dX7_number_44 : decode cX7_number 44 = .ok (.bipush 48, 2) := by decide +kernel
theorem dX7_number_46 : decode cX7_number 46 = .ok (.bipush 57, 2) := by decide +kernel
theorem dX7_number_48 : decode cX7_number 48 = .ok (.invokevirtual 169, 3) := by decide +kernel
theorem dX7_number_51 : decode cX7_number 51 = .ok (.ifCond .eq 55, 3) := by decide +kernel
theorem dX7_number_54 : decode cX7_number 54 = .ok (.bipush 10, 2) := by decide +kernel
theorem dX7_number_56 : decode cX7_number 56 = .ok (.iload_n 3, 1) := by decide +kernel
theorem dX7_number_57 : decode cX7_number 57 = .ok (.imul, 1) := by decide +kernel
theorem dX7_number_58 : decode cX7_number 58 = .ok (.aload_n 0, 1) := by decide +kernel
theorem dX7_number_59 : decode cX7_number 59 = .ok (.getfield 22, 3) := by decide +kernel
theorem dX7_number_62 : decode cX7_number 62 = .ok (.aload_n 0, 1) := by decide +kernel
theorem dX7_number_63 : decode cX7_number 63 = .ok (.getfield 166, 3) := by decide +kernel
theorem dX7_number_66 : decode cX7_number 66 = .ok (.iaload, 1) := by decide +kernel
theorem dX7_number_67 : decode cX7_number 67 = .ok (.iadd, 1) := by decide +kernel
theorem dX7_number_68 : decode cX7_number 68 = .ok (.bipush 48, 2) := by decide +kernel
theorem dX7_number_70 : decode cX7_number 70 = .ok (.isub, 1) := by decide +kernel
theorem dX7_number_71 : decode cX7_number 71 = .ok (.iload_n 2, 1) := by decide +kernel
theorem dX7_number_72 : decode cX7_number 72 = .ok (.if_icmp .gt 34, 3) := by decide +kernel
theorem dX7_number_75 : decode cX7_number 75 = .ok (.bipush 10, 2) := by decide +kernel
theorem dX7_number_77 : decode cX7_number 77 = .ok (.iload_n 3, 1) := by decide +kernel
theorem dX7_number_78 : decode cX7_number 78 = .ok (.imul, 1) := by decide +kernel
theorem dX7_number_79 : decode cX7_number 79 = .ok (.aload_n 0, 1) := by decide +kernel
theorem dX7_number_80 : decode cX7_number 80 = .ok (.getfield 22, 3) := by decide +kernel
theorem dX7_number_83 : decode cX7_number 83 = .ok (.aload_n 0, 1) := by decide +kernel
theorem dX7_number_84 : decode cX7_number 84 = .ok (.getfield 166, 3) := by decide +kernel
theorem dX7_number_87 : decode cX7_number 87 = .ok (.iaload, 1) := by decide +kernel
theorem dX7_number_88 : decode cX7_number 88 = .ok (.iadd, 1) := by decide +kernel
theorem dX7_number_89 : decode cX7_number 89 = .ok (.bipush 48, 2) := by decide +kernel
theorem dX7_number_91 : decode cX7_number 91 = .ok (.isub, 1) := by decide +kernel
theorem dX7_number_92 : decode cX7_number 92 = .ok (.istore_n 3, 1) := by decide +kernel
theorem dX7_number_93 : decode cX7_number 93 = .ok (.aload_n 0, 1) := by decide +kernel
theorem dX7_number_94 : decode cX7_number 94 = .ok (.dup, 1) := by decide +kernel
theorem dX7_number_95 : decode cX7_number 95 = .ok (.getfield 166, 3) := by decide +kernel
theorem dX7_number_98 : decode cX7_number 98 = .ok (.iconst 1, 1) := by decide +kernel
theorem dX7_number_99 : decode cX7_number 99 = .ok (.iadd, 1) := by decide +kernel
theorem dX7_number_100 : decode cX7_number 100 = .ok (.putfield 166, 3) := by decide +kernel
theorem dX7_number_103 : decode cX7_number 103 = .ok (.goto (-64), 3) := by decide +kernel
theorem dX7_number_106 : decode cX7_number 106 = .ok (.iload_n 3, 1) := by decide +kernel
theorem dX7_number_107 : decode cX7_number 107 = .ok (.ireturn, 1) := by decide +kernel
theorem dX7_readOrder_0 : decode cX7_readOrder 0 = .ok (.aload_n 0, 1) := by decide +kernel
theorem dX7_readOrder_1 : decode cX7_readOrder 1 = .ok (.getfield 166, 3) := by decide +kernel
theorem dX7_readOrder_4 : decode cX7_readOrder 4 = .ok (.aload_n 0, 1) := by decide +kernel
theorem dX7_readOrder_5 : decode cX7_readOrder 5 = .ok (.getfield 163, 3) := by decide +kernel
theorem dX7_readOrder_8 : decode cX7_readOrder 8 = .ok (.if_icmp .ge 15, 3) := by decide +kernel
theorem dX7_readOrder_11 : decode cX7_readOrder 11 = .ok (.aload_n 0, 1) := by decide +kernel
theorem dX7_readOrder_12 : decode cX7_readOrder 12 = .ok (.getfield 22, 3) := by decide +kernel
theorem dX7_readOrder_15 : decode cX7_readOrder 15 = .ok (.aload_n 0, 1) := by decide +kernel
theorem dX7_readOrder_16 : decode cX7_readOrder 16 = .ok (.getfield 166, 3) := by decide +kernel
theorem dX7_readOrder_19 : decode cX7_readOrder 19 = .ok (.iaload, 1) := by decide +kernel
theorem dX7_readOrder_20 : decode cX7_readOrder 20 = .ok (.goto 4, 3) := by decide +kernel
theorem dX7_readOrder_23 : decode cX7_readOrder 23 = .ok (.iconst 0, 1) := by decide +kernel
theorem dX7_readOrder_24 : decode cX7_readOrder 24 = .ok (.istore_n 1, 1) := by decide +kernel
theorem dX7_readOrder_25 : decode cX7_readOrder 25 = .ok (.iload_n 1, 1) := by decide +kernel
theorem dX7_readOrder_26 : decode cX7_readOrder 26 = .ok (.bipush 43, 2) := by decide +kernel
theorem dX7_readOrder_28 : decode cX7_readOrder 28 = .ok (.if_icmp .eq 15, 3) := by decide +kernel
theorem dX7_readOrder_31 : decode cX7_readOrder 31 = .ok (.iload_n 1, 1) := by decide +kernel
theorem dX7_readOrder_32 : decode cX7_readOrder 32 = .ok (.bipush 45, 2) := by decide +kernel
theorem dX7_readOrder_34 : decode cX7_readOrder 34 = .ok (.if_icmp .eq 9, 3) := by decide +kernel
theorem dX7_readOrder_37 : decode cX7_readOrder 37 = .ok (.iload_n 1, 1) := by decide +kernel
theorem dX7_readOrder_38 : decode cX7_readOrder 38 = .ok (.bipush 122, 2) := by decide +kernel
theorem dX7_readOrder_40 : decode cX7_readOrder 40 = .ok (.if_icmp .ne 7, 3) := by decide +kernel
theorem dX7_readOrder_43 : decode cX7_readOrder 43 = .ok (.iconst 1, 1) := by decide +kernel
theorem dX7_readOrder_44 : decode cX7_readOrder 44 = .ok (.goto 4, 3) := by decide +kernel
theorem dX7_readOrder_47 : decode cX7_readOrder 47 = .ok (.iconst 0, 1) := by decide +kernel
theorem dX7_readOrder_48 : decode cX7_readOrder 48 = .ok (.istore_n 2, 1) := by decide +kernel
theorem dX7_readOrder_49 : decode cX7_readOrder 49 = .ok (.iload_n 2, 1) := by decide +kernel
theorem dX7_readOrder_50 : decode cX7_readOrder 50 = .ok (.ifCond .ne 29, 3) := by decide +kernel
theorem dX7_readOrder_53 : decode cX7_readOrder 53 = .ok (.iload_n 1, 1) := by decide +kernel
theorem dX7_readOrder_54 : decode cX7_readOrder 54 = .ok (.bipush 119, 2) := by decide +kernel
theorem dX7_readOrder_56 : decode cX7_readOrder 56 = .ok (.if_icmp .eq 23, 3) := by decide +kernel
theorem dX7_readOrder_59 : decode cX7_readOrder 59 = .ok (.iload_n 1, 1) := by decide +kernel
theorem dX7_readOrder_60 : decode cX7_readOrder 60 = .ok (.bipush 118, 2) := by decide +kernel
theorem dX7_readOrder_62 : decode cX7_readOrder 62 = .ok (.if_icmp .eq 17, 3) := by decide +kernel
theorem dX7_readOrder_65 : decode cX7_readOrder 65 = .ok (.iload_n 1, 1) := by decide +kernel
theorem dX7_readOrder_66 : decode cX7_readOrder 66 = .ok (.bipush 97, 2) := by decide +kernel
theorem dX7_readOrder_68 : decode cX7_readOrder 68 = .ok (.if_icmp .eq 11, 3) := by decide +kernel
theorem dX7_readOrder_71 : decode cX7_readOrder 71 = .ok (.iload_n 1, 1) := by decide +kernel
theorem dX7_readOrder_72 : decode cX7_readOrder 72 = .ok (.bipush 102, 2) := by decide +kernel
theorem dX7_readOrder_74 : decode cX7_readOrder 74 = .ok (.if_icmp .eq 5, 3) := by decide +kernel
theorem dX7_readOrder_77 : decode cX7_readOrder 77 = .ok (.iconst 0, 1) := by decide +kernel
theorem dX7_readOrder_78 : decode cX7_readOrder 78 = .ok (.ireturn, 1) := by decide +kernel
theorem dX7_readOrder_79 : decode cX7_readOrder 79 = .ok (.aload_n 0, 1) := by decide +kernel
theorem dX7_readOrder_80 : decode cX7_readOrder 80 = .ok (.dup, 1) := by decide +kernel
theorem dX7_readOrder_81 : decode cX7_readOrder 81 = .ok (.getfield 166, 3) := by decide +kernel
theorem dX7_readOrder_84 : decode cX7_readOrder 84 = .ok (.iconst 1, 1) := by decide +kernel
theorem dX7_readOrder_85 : decode cX7_readOrder 85 = .ok (.iadd, 1) := by decide +kernel
theorem dX7_readOrder_86 : decode cX7_readOrder 86 = .ok (.putfield 166, 3) := by decide +kernel
theorem dX7_readOrder_89 : decode cX7_readOrder 89 = .ok (.iload_n 2, 1) := by decide +kernel
theorem dX7_readOrder_90 : decode cX7_readOrder 90 = .ok (.ifCond .eq 14, 3) := by decide +kernel
theorem dX7_readOrder_93 : decode cX7_readOrder 93 = .ok (.aload_n 0, 1) := by decide +kernel
theorem dX7_readOrder_94 : decode cX7_readOrder 94 = .ok (.iconst 0, 1) := by decide +kernel
theorem dX7_readOrder_95 : decode cX7_readOrder 95 = .ok (.sipush 255, 3) := by decide +kernel
theorem dX7_readOrder_98 : decode cX7_readOrder 98 = .ok (.invokevirtual 172, 3) := by decide +kernel
theorem dX7_readOrder_101 : decode cX7_readOrder 101 = .ok (.goto 20, 3) := by decide +kernel
theorem dX7_readOrder_104 : decode cX7_readOrder 104 = .ok (.iload_n 1, 1) := by decide +kernel
theorem dX7_readOrder_105 : decode cX7_readOrder 105 = .ok (.bipush 102, 2) := by decide +kernel
theorem dX7_readOrder_107 : decode cX7_readOrder 107 = .ok (.if_icmp .ne 13, 3) := by decide +kernel
theorem dX7_readOrder_110 : decode cX7_readOrder 110 = .ok (.aload_n 0, 1) := by decide +kernel
theorem dX7_readOrder_111 : decode cX7_readOrder 111 = .ok (.iconst 1, 1) := by decide +kernel
theorem dX7_readOrder_112 : decode cX7_readOrder 112 = .ok (.bipush 64, 2) := by decide +kernel
theorem dX7_readOrder_114 : decode cX7_readOrder 114 = .ok (.invokevirtual 172, 3) := by decide +kernel
theorem dX7_readOrder_117 : decode cX7_readOrder 117 = .ok (.goto 4, 3) := by decide +kernel
theorem dX7_readOrder_120 : decode cX7_readOrder 120 = .ok (.iconst 0, 1) := by decide +kernel
theorem dX7_readOrder_121 : decode cX7_readOrder 121 = .ok (.istore_n 3, 1) := by decide +kernel
theorem dX7_readOrder_122 : decode cX7_readOrder 122 = .ok (.iload_n 3, 1) := by decide +kernel
theorem dX7_readOrder_123 : decode cX7_readOrder 123 = .ok (.bipush (-5), 2) := by decide +kernel
theorem dX7_readOrder_125 : decode cX7_readOrder 125 = .ok (.if_icmp .ne 5, 3) := by decide +kernel
theorem dX7_readOrder_128 : decode cX7_readOrder 128 = .ok (.iconst 0, 1) := by decide +kernel
theorem dX7_readOrder_129 : decode cX7_readOrder 129 = .ok (.ireturn, 1) := by decide +kernel
theorem dX7_readOrder_130 : decode cX7_readOrder 130 = .ok (.aload_n 0, 1) := by decide +kernel
theorem dX7_readOrder_131 : decode cX7_readOrder 131 = .ok (.getfield 34, 3) := by decide +kernel
theorem dX7_readOrder_134 : decode cX7_readOrder 134 = .ok (.aload_n 0, 1) := by decide +kernel
theorem dX7_readOrder_135 : decode cX7_readOrder 135 = .ok (.getfield 175, 3) := by decide +kernel
theorem dX7_readOrder_138 : decode cX7_readOrder 138 = .ok (.iload_n 1, 1) := by decide +kernel
theorem dX7_readOrder_139 : decode cX7_readOrder 139 = .ok (.iastore, 1) := by decide +kernel
theorem dX7_readOrder_140 : decode cX7_readOrder 140 = .ok (.aload_n 0, 1) := by decide +kernel
theorem dX7_readOrder_141 : decode cX7_readOrder 141 = .ok (.getfield 37, 3) := by decide +kernel
theorem dX7_readOrder_144 : decode cX7_readOrder 144 = .ok (.aload_n 0, 1) := by decide +kernel
theorem dX7_readOrder_145 : decode cX7_readOrder 145 = .ok (.getfield 175, 3) := by decide +kernel
theorem dX7_readOrder_148 : decode cX7_readOrder 148 = .ok (.iload_n 3, 1) := by decide +kernel
theorem dX7_readOrder_149 : decode cX7_readOrder 149 = .ok (.iastore, 1) := by decide +kernel
theorem dX7_readOrder_150 : decode cX7_readOrder 150 = .ok (.aload_n 0, 1) := by decide +kernel
theorem dX7_readOrder_151 : decode cX7_readOrder 151 = .ok (.dup, 1) := by decide +kernel
theorem dX7_readOrder_152 : decode cX7_readOrder 152 = .ok (.getfield 175, 3) := by decide +kernel
theorem dX7_readOrder_155 : decode cX7_readOrder 155 = .ok (.iconst 1, 1) := by decide +kernel
theorem dX7_readOrder_156 : decode cX7_readOrder 156 = .ok (.iadd, 1) := by decide +kernel
theorem dX7_readOrder_157 : decode cX7_readOrder 157 = .ok (.putfield 175, 3) := by decide +kernel
theorem dX7_readOrder_160 : decode cX7_readOrder 160 = .ok (.iconst 1, 1) := by decide +kernel
theorem dX7_readOrder_161 : decode cX7_readOrder 161 = .ok (.ireturn, 1) := by decide +kernel
theorem dX7_readText_0 : decode cX7_readText 0 = .ok (.aload_n 0, 1) := by decide +kernel
theorem dX7_readText_1 : decode cX7_readText 1 = .ok (.iconst 0, 1) := by decide +kernel
end
section
theorem dX7_readText_2 : decode cX7_readText 2 = .ok (.putfield 166, 3) := by decide +kernel
theorem dX7_readText_5 : decode cX7_readText 5 = .ok (.aload_n 0, 1) := by decide +kernel
theorem dX7_readText_6 : decode cX7_readText 6 = .ok (.iconst 0, 1) := by decide +kernel
theorem dX7_readText_7 : decode cX7_readText 7 = .ok (.putfield 175, 3) := by decide +kernel
theorem dX7_readText_10 : decode cX7_readText 10 = .ok (.aload_n 0, 1) := by decide +kernel
theorem dX7_readText_11 : decode cX7_readText 11 = .ok (.invokevirtual 178, 3) := by decide +kernel
theorem dX7_readText_14 : decode cX7_readText 14 = .ok (.istore_n 1, 1) := by decide +kernel
theorem dX7_readText_15 : decode cX7_readText 15 = .ok (.iload_n 1, 1) := by decide +kernel
theorem dX7_readText_16 : decode cX7_readText 16 = .ok (.ifCond .eq 39, 3) := by decide +kernel
theorem dX7_readText_19 : decode cX7_readText 19 = .ok (.aload_n 0, 1) := by decide +kernel
theorem dX7_readText_20 : decode cX7_readText 20 = .ok (.getfield 166, 3) := by decide +kernel
theorem dX7_readText_23 : decode cX7_readText 23 = .ok (.aload_n 0, 1) := by decide +kernel
theorem dX7_readText_24 : decode cX7_readText 24 = .ok (.getfield 163, 3) := by decide +kernel
theorem dX7_readText_27 : decode cX7_readText 27 = .ok (.if_icmp .ge 28, 3) := by decide +kernel
theorem dX7_readText_30 : decode cX7_readText 30 = .ok (.aload_n 0, 1) := by decide +kernel
theorem dX7_readText_31 : decode cX7_readText 31 = .ok (.bipush 59, 2) := by decide +kernel
theorem dX7_readText_33 : decode cX7_readText 33 = .ok (.invokevirtual 182, 3) := by decide +kernel
theorem dX7_readText_36 : decode cX7_readText 36 = .ok (.ifCond .eq 14, 3) := by decide +kernel
theorem dX7_readText_39 : decode cX7_readText 39 = .ok (.aload_n 0, 1) := by decide +kernel
theorem dX7_readText_40 : decode cX7_readText 40 = .ok (.invokevirtual 178, 3) := by decide +kernel
theorem dX7_readText_43 : decode cX7_readText 43 = .ok (.ifCond .eq 7, 3) := by decide +kernel
theorem dX7_readText_46 : decode cX7_readText 46 = .ok (.iconst 1, 1) := by decide +kernel
theorem dX7_readText_47 : decode cX7_readText 47 = .ok (.goto 4, 3) := by decide +kernel
theorem dX7_readText_50 : decode cX7_readText 50 = .ok (.iconst 0, 1) := by decide +kernel
theorem dX7_readText_51 : decode cX7_readText 51 = .ok (.istore_n 1, 1) := by decide +kernel
theorem dX7_readText_52 : decode cX7_readText 52 = .ok (.goto (-37), 3) := by decide +kernel
theorem dX7_readText_55 : decode cX7_readText 55 = .ok (.iload_n 1, 1) := by decide +kernel
theorem dX7_readText_56 : decode cX7_readText 56 = .ok (.ireturn, 1) := by decide +kernel
theorem dX7_whyNot_0 : decode cX7_whyNot 0 = .ok (.iload_n 1, 1) := by decide +kernel
theorem dX7_whyNot_1 : decode cX7_whyNot 1 = .ok (.bipush 43, 2) := by decide +kernel
theorem dX7_whyNot_3 : decode cX7_whyNot 3 = .ok (.if_icmp .ne 11, 3) := by decide +kernel
theorem dX7_whyNot_6 : decode cX7_whyNot 6 = .ok (.aload_n 0, 1) := by decide +kernel
theorem dX7_whyNot_7 : decode cX7_whyNot 7 = .ok (.iload_n 2, 1) := by decide +kernel
theorem dX7_whyNot_8 : decode cX7_whyNot 8 = .ok (.invokevirtual 75, 3) := by decide +kernel
theorem dX7_whyNot_11 : decode cX7_whyNot 11 = .ok (.goto 30, 3) := by decide +kernel
theorem dX7_whyNot_14 : decode cX7_whyNot 14 = .ok (.iload_n 1, 1) := by decide +kernel
theorem dX7_whyNot_15 : decode cX7_whyNot 15 = .ok (.bipush 45, 2) := by decide +kernel
theorem dX7_whyNot_17 : decode cX7_whyNot 17 = .ok (.if_icmp .eq 9, 3) := by decide +kernel
theorem dX7_whyNot_20 : decode cX7_whyNot 20 = .ok (.iload_n 1, 1) := by decide +kernel
theorem dX7_whyNot_21 : decode cX7_whyNot 21 = .ok (.bipush 122, 2) := by decide +kernel
theorem dX7_whyNot_23 : decode cX7_whyNot 23 = .ok (.if_icmp .ne 17, 3) := by decide +kernel
theorem dX7_whyNot_26 : decode cX7_whyNot 26 = .ok (.aload_n 0, 1) := by decide +kernel
theorem dX7_whyNot_27 : decode cX7_whyNot 27 = .ok (.iload_n 2, 1) := by decide +kernel
theorem dX7_whyNot_28 : decode cX7_whyNot 28 = .ok (.invokevirtual 67, 3) := by decide +kernel
theorem dX7_whyNot_31 : decode cX7_whyNot 31 = .ok (.bipush (-5), 2) := by decide +kernel
theorem dX7_whyNot_33 : decode cX7_whyNot 33 = .ok (.if_icmp .ne 7, 3) := by decide +kernel
theorem dX7_whyNot_36 : decode cX7_whyNot 36 = .ok (.iconst (-1), 1) := by decide +kernel
theorem dX7_whyNot_37 : decode cX7_whyNot 37 = .ok (.goto 4, 3) := by decide +kernel
theorem dX7_whyNot_40 : decode cX7_whyNot 40 = .ok (.iconst 0, 1) := by decide +kernel
theorem dX7_whyNot_41 : decode cX7_whyNot 41 = .ok (.ireturn, 1) := by decide +kernel
theorem dX7_carryOut_0 : decode cX7_carryOut 0 = .ok (.iload_n 1, 1) := by decide +kernel
theorem dX7_carryOut_1 : decode cX7_carryOut 1 = .ok (.lookupswitch 100 #[(43, 51), (45, 59), (97, 85), (102, 92), (122, 71)], 51) := by decide +kernel
theorem dX7_carryOut_52 : decode cX7_carryOut 52 = .ok (.aload_n 0, 1) := by decide +kernel
theorem dX7_carryOut_53 : decode cX7_carryOut 53 = .ok (.iload_n 2, 1) := by decide +kernel
theorem dX7_carryOut_54 : decode cX7_carryOut 54 = .ok (.invokevirtual 78, 3) := by decide +kernel
theorem dX7_carryOut_57 : decode cX7_carryOut 57 = .ok (.goto 59, 3) := by decide +kernel
theorem dX7_carryOut_60 : decode cX7_carryOut 60 = .ok (.aload_n 0, 1) := by decide +kernel
theorem dX7_carryOut_61 : decode cX7_carryOut 61 = .ok (.aload_n 0, 1) := by decide +kernel
theorem dX7_carryOut_62 : decode cX7_carryOut 62 = .ok (.iload_n 2, 1) := by decide +kernel
theorem dX7_carryOut_63 : decode cX7_carryOut 63 = .ok (.invokevirtual 67, 3) := by decide +kernel
theorem dX7_carryOut_66 : decode cX7_carryOut 66 = .ok (.invokevirtual 82, 3) := by decide +kernel
theorem dX7_carryOut_69 : decode cX7_carryOut 69 = .ok (.goto 47, 3) := by decide +kernel
theorem dX7_carryOut_72 : decode cX7_carryOut 72 = .ok (.aload_n 0, 1) := by decide +kernel
theorem dX7_carryOut_73 : decode cX7_carryOut 73 = .ok (.aload_n 0, 1) := by decide +kernel
theorem dX7_carryOut_74 : decode cX7_carryOut 74 = .ok (.iload_n 2, 1) := by decide +kernel
theorem dX7_carryOut_75 : decode cX7_carryOut 75 = .ok (.invokevirtual 67, 3) := by decide +kernel
theorem dX7_carryOut_78 : decode cX7_carryOut 78 = .ok (.iconst 1, 1) := by decide +kernel
theorem dX7_carryOut_79 : decode cX7_carryOut 79 = .ok (.iconst 0, 1) := by decide +kernel
theorem dX7_carryOut_80 : decode cX7_carryOut 80 = .ok (.invokevirtual 71, 3) := by decide +kernel
theorem dX7_carryOut_83 : decode cX7_carryOut 83 = .ok (.goto 33, 3) := by decide +kernel
theorem dX7_carryOut_86 : decode cX7_carryOut 86 = .ok (.aload_n 0, 1) := by decide +kernel
theorem dX7_carryOut_87 : decode cX7_carryOut 87 = .ok (.invokevirtual 89, 3) := by decide +kernel
theorem dX7_carryOut_90 : decode cX7_carryOut 90 = .ok (.goto 26, 3) := by decide +kernel
theorem dX7_carryOut_93 : decode cX7_carryOut 93 = .ok (.aload_n 0, 1) := by decide +kernel
theorem dX7_carryOut_94 : decode cX7_carryOut 94 = .ok (.iload_n 2, 1) := by decide +kernel
theorem dX7_carryOut_95 : decode cX7_carryOut 95 = .ok (.invokevirtual 153, 3) := by decide +kernel
theorem dX7_carryOut_98 : decode cX7_carryOut 98 = .ok (.goto 18, 3) := by decide +kernel
theorem dX7_carryOut_101 : decode cX7_carryOut 101 = .ok (.aload_n 0, 1) := by decide +kernel
theorem dX7_carryOut_102 : decode cX7_carryOut 102 = .ok (.iload_n 1, 1) := by decide +kernel
theorem dX7_carryOut_103 : decode cX7_carryOut 103 = .ok (.bipush 118, 2) := by decide +kernel
theorem dX7_carryOut_105 : decode cX7_carryOut 105 = .ok (.if_icmp .ne 7, 3) := by decide +kernel
theorem dX7_carryOut_108 : decode cX7_carryOut 108 = .ok (.iconst 1, 1) := by decide +kernel
theorem dX7_carryOut_109 : decode cX7_carryOut 109 = .ok (.goto 4, 3) := by decide +kernel
theorem dX7_carryOut_112 : decode cX7_carryOut 112 = .ok (.iconst 0, 1) := by decide +kernel
theorem dX7_carryOut_113 : decode cX7_carryOut 113 = .ok (.invokevirtual 135, 3) := by decide +kernel
theorem dX7_carryOut_116 : decode cX7_carryOut 116 = .ok (.return_, 1) := by decide +kernel
theorem dX7_perform_0 : decode cX7_perform 0 = .ok (.aload_n 0, 1) := by decide +kernel
theorem dX7_perform_1 : decode cX7_perform 1 = .ok (.invokevirtual 185, 3) := by decide +kernel
theorem dX7_perform_4 : decode cX7_perform 4 = .ok (.ifCond .ne 11, 3) := by decide +kernel
theorem dX7_perform_7 : decode cX7_perform 7 = .ok (.bipush (-100), 2) := by decide +kernel
theorem dX7_perform_9 : decode cX7_perform 9 = .ok (.aload_n 0, 1) := by decide +kernel
theorem dX7_perform_10 : decode cX7_perform 10 = .ok (.getfield 166, 3) := by decide +kernel
theorem dX7_perform_13 : decode cX7_perform 13 = .ok (.isub, 1) := by decide +kernel
theorem dX7_perform_14 : decode cX7_perform 14 = .ok (.ireturn, 1) := by decide +kernel
theorem dX7_perform_15 : decode cX7_perform 15 = .ok (.aload_n 0, 1) := by decide +kernel
theorem dX7_perform_16 : decode cX7_perform 16 = .ok (.getfield 7, 3) := by decide +kernel
theorem dX7_perform_19 : decode cX7_perform 19 = .ok (.iconst 0, 1) := by decide +kernel
theorem dX7_perform_20 : decode cX7_perform 20 = .ok (.aload_n 0, 1) := by decide +kernel
theorem dX7_perform_21 : decode cX7_perform 21 = .ok (.getfield 13, 3) := by decide +kernel
theorem dX7_perform_24 : decode cX7_perform 24 = .ok (.iconst 0, 1) := by decide +kernel
theorem dX7_perform_25 : decode cX7_perform 25 = .ok (.invokestatic 48, 3) := by decide +kernel
theorem dX7_perform_28 : decode cX7_perform 28 = .ok (.iconst 0, 1) := by decide +kernel
theorem dX7_perform_29 : decode cX7_perform 29 = .ok (.istore_n 1, 1) := by decide +kernel
theorem dX7_perform_30 : decode cX7_perform 30 = .ok (.iload_n 1, 1) := by decide +kernel
theorem dX7_perform_31 : decode cX7_perform 31 = .ok (.aload_n 0, 1) := by decide +kernel
theorem dX7_perform_32 : decode cX7_perform 32 = .ok (.getfield 175, 3) := by decide +kernel
theorem dX7_perform_35 : decode cX7_perform 35 = .ok (.if_icmp .ge 61, 3) := by decide +kernel
theorem dX7_perform_38 : decode cX7_perform 38 = .ok (.aload_n 0, 1) := by decide +kernel
theorem dX7_perform_39 : decode cX7_perform 39 = .ok (.aload_n 0, 1) := by decide +kernel
theorem dX7_perform_40 : decode cX7_perform 40 = .ok (.getfield 34, 3) := by decide +kernel
theorem dX7_perform_43 : decode cX7_perform 43 = .ok (.iload_n 1, 1) := by decide +kernel
theorem dX7_perform_44 : decode cX7_perform 44 = .ok (.iaload, 1) := by decide +kernel
theorem dX7_perform_45 : decode cX7_perform 45 = .ok (.aload_n 0, 1) := by decide +kernel
theorem dX7_perform_46 : decode cX7_perform 46 = .ok (.getfield 37, 3) := by decide +kernel
theorem dX7_perform_49 : decode cX7_perform 49 = .ok (.iload_n 1, 1) := by decide +kernel
theorem dX7_perform_50 : decode cX7_perform 50 = .ok (.iaload, 1) := by decide +kernel
theorem dX7_perform_51 : decode cX7_perform 51 = .ok (.invokevirtual 188, 3) := by decide +kernel
theorem dX7_perform_54 : decode cX7_perform 54 = .ok (.istore_n 2, 1) := by decide +kernel
theorem dX7_perform_55 : decode cX7_perform 55 = .ok (.iload_n 2, 1) := by decide +kernel
theorem dX7_perform_56 : decode cX7_perform 56 = .ok (.ifCond .ge 18, 3) := by decide +kernel
theorem dX7_perform_59 : decode cX7_perform 59 = .ok (.aload_n 0, 1) := by decide +kernel
theorem dX7_perform_60 : decode cX7_perform 60 = .ok (.getfield 13, 3) := by decide +kernel
theorem dX7_perform_63 : decode cX7_perform 63 = .ok (.iconst 0, 1) := by decide +kernel
theorem dX7_perform_64 : decode cX7_perform 64 = .ok (.aload_n 0, 1) := by decide +kernel
theorem dX7_perform_65 : decode cX7_perform 65 = .ok (.getfield 7, 3) := by decide +kernel
theorem dX7_perform_68 : decode cX7_perform 68 = .ok (.iconst 0, 1) := by decide +kernel
theorem dX7_perform_69 : decode cX7_perform 69 = .ok (.invokestatic 48, 3) := by decide +kernel
theorem dX7_perform_72 : decode cX7_perform 72 = .ok (.iload_n 2, 1) := by decide +kernel
theorem dX7_perform_73 : decode cX7_perform 73 = .ok (.ireturn, 1) := by decide +kernel
theorem dX7_perform_74 : decode cX7_perform 74 = .ok (.aload_n 0, 1) := by decide +kernel
theorem dX7_perform_75 : decode cX7_perform 75 = .ok (.aload_n 0, 1) := by decide +kernel
theorem dX7_perform_76 : decode cX7_perform 76 = .ok (.getfield 34, 3) := by decide +kernel
theorem dX7_perform_79 : decode cX7_perform 79 = .ok (.iload_n 1, 1) := by decide +kernel
theorem dX7_perform_80 : decode cX7_perform 80 = .ok (.iaload, 1) := by decide +kernel
theorem dX7_perform_81 : decode cX7_perform 81 = .ok (.aload_n 0, 1) := by decide +kernel
theorem dX7_perform_82 : decode cX7_perform 82 = .ok (.getfield 37, 3) := by decide +kernel
theorem dX7_perform_85 : decode cX7_perform 85 = .ok (.iload_n 1, 1) := by decide +kernel
theorem dX7_perform_86 : decode cX7_perform 86 = .ok (.iaload, 1) := by decide +kernel
theorem dX7_perform_87 : decode cX7_perform 87 = .ok (.invokevirtual 191, 3) := by decide +kernel
theorem dX7_perform_90 : decode cX7_perform 90 = .ok (.iinc 1 1, 3) := by decide +kernel
theorem dX7_perform_93 : decode cX7_perform 93 = .ok (.goto (-63), 3) := by decide +kernel
theorem dX7_perform_96 : decode cX7_perform 96 = .ok (.aload_n 0, 1) := by decide +kernel
theorem dX7_perform_97 : decode cX7_perform 97 = .ok (.aload_n 0, 1) := by decide +kernel
theorem dX7_perform_98 : decode cX7_perform 98 = .ok (.getfield 13, 3) := by decide +kernel
theorem dX7_perform_101 : decode cX7_perform 101 = .ok (.invokevirtual 52, 3) := by decide +kernel
theorem dX7_perform_104 : decode cX7_perform 104 = .ok (.aload_n 0, 1) := by decide +kernel
theorem dX7_perform_105 : decode cX7_perform 105 = .ok (.getfield 175, 3) := by decide +kernel
theorem dX7_perform_108 : decode cX7_perform 108 = .ok (.ireturn, 1) := by decide +kernel
theorem dX7_card_0 : decode cX7_card 0 = .ok (.iload_n 1, 1) := by decide +kernel
theorem dX7_card_1 : decode cX7_card 1 = .ok (.ifCond .ge 8, 3) := by decide +kernel
theorem dX7_card_4 : decode cX7_card 4 = .ok (.bipush (-2), 2) := by decide +kernel
theorem dX7_card_6 : decode cX7_card 6 = .ok (.goto 24, 3) := by decide +kernel
theorem dX7_card_9 : decode cX7_card 9 = .ok (.iload_n 1, 1) := by decide +kernel
theorem dX7_card_10 : decode cX7_card 10 = .ok (.aload_n 0, 1) := by decide +kernel
theorem dX7_card_11 : decode cX7_card 11 = .ok (.getfield 7, 3) := by decide +kernel
theorem dX7_card_14 : decode cX7_card 14 = .ok (.iconst 0, 1) := by decide +kernel
theorem dX7_card_15 : decode cX7_card 15 = .ok (.iaload, 1) := by decide +kernel
theorem dX7_card_16 : decode cX7_card 16 = .ok (.if_icmp .ge 12, 3) := by decide +kernel
theorem dX7_card_19 : decode cX7_card 19 = .ok (.aload_n 0, 1) := by decide +kernel
theorem dX7_card_20 : decode cX7_card 20 = .ok (.iload_n 1, 1) := by decide +kernel
theorem dX7_card_21 : decode cX7_card 21 = .ok (.iconst 0, 1) := by decide +kernel
theorem dX7_card_22 : decode cX7_card 22 = .ok (.invokevirtual 40, 3) := by decide +kernel
theorem dX7_card_25 : decode cX7_card 25 = .ok (.goto 5, 3) := by decide +kernel
theorem dX7_card_28 : decode cX7_card 28 = .ok (.bipush (-5), 2) := by decide +kernel
theorem dX7_card_30 : decode cX7_card 30 = .ok (.ireturn, 1) := by decide +kernel
theorem dX7_shares_0 : decode cX7_shares 0 = .ok (.bipush (-5), 2) := by decide +kernel
theorem dX7_shares_2 : decode cX7_shares 2 = .ok (.istore_n 2, 1) := by decide +kernel
theorem dX7_shares_3 : decode cX7_shares 3 = .ok (.iconst 0, 1) := by decide +kernel
theorem dX7_shares_4 : decode cX7_shares 4 = .ok (.istore_n 3, 1) := by decide +kernel
theorem dX7_shares_5 : decode cX7_shares 5 = .ok (.iload_n 3, 1) := by decide +kernel
theorem dX7_shares_6 : decode cX7_shares 6 = .ok (.aload_n 0, 1) := by decide +kernel
theorem dX7_shares_7 : decode cX7_shares 7 = .ok (.getfield 7, 3) := by decide +kernel
theorem dX7_shares_10 : decode cX7_shares 10 = .ok (.iconst 0, 1) := by decide +kernel
theorem dX7_shares_11 : decode cX7_shares 11 = .ok (.iaload, 1) := by decide +kernel
theorem dX7_shares_12 : decode cX7_shares 12 = .ok (.if_icmp .ge 69, 3) := by decide +kernel
theorem dX7_shares_15 : decode cX7_shares 15 = .ok (.iconst 0, 1) := by decide +kernel
theorem dX7_shares_16 : decode cX7_shares 16 = .ok (.istore 4, 2) := by decide +kernel
theorem dX7_shares_18 : decode cX7_shares 18 = .ok (.iload_n 3, 1) := by decide +kernel
theorem dX7_shares_19 : decode cX7_shares 19 = .ok (.iload_n 1, 1) := by decide +kernel
theorem dX7_shares_20 : decode cX7_shares 20 = .ok (.if_icmp .eq 37, 3) := by decide +kernel
theorem dX7_shares_23 : decode cX7_shares 23 = .ok (.aload_n 0, 1) := by decide +kernel
theorem dX7_shares_24 : decode cX7_shares 24 = .ok (.iload_n 3, 1) := by decide +kernel
theorem dX7_shares_25 : decode cX7_shares 25 = .ok (.iconst 0, 1) := by decide +kernel
theorem dX7_shares_26 : decode cX7_shares 26 = .ok (.invokevirtual 40, 3) := by decide +kernel
theorem dX7_shares_29 : decode cX7_shares 29 = .ok (.iload 4, 2) := by decide +kernel
theorem dX7_shares_31 : decode cX7_shares 31 = .ok (.iconst 1, 1) := by decide +kernel
theorem dX7_shares_32 : decode cX7_shares 32 = .ok (.iadd, 1) := by decide +kernel
theorem dX7_shares_33 : decode cX7_shares 33 = .ok (.aload_n 0, 1) := by decide +kernel
theorem dX7_shares_34 : decode cX7_shares 34 = .ok (.iload_n 1, 1) := by decide +kernel
theorem dX7_shares_35 : decode cX7_shares 35 = .ok (.iconst 0, 1) := by decide +kernel
theorem dX7_shares_36 : decode cX7_shares 36 = .ok (.invokevirtual 40, 3) := by decide +kernel
theorem dX7_shares_39 : decode cX7_shares 39 = .ok (.bipush 7, 2) := by decide +kernel
theorem dX7_shares_41 : decode cX7_shares 41 = .ok (.iload 4, 2) := by decide +kernel
theorem dX7_shares_43 : decode cX7_shares 43 = .ok (.isub, 1) := by decide +kernel
theorem dX7_shares_44 : decode cX7_shares 44 = .ok (.ishr, 1) := by decide +kernel
theorem dX7_shares_45 : decode cX7_shares 45 = .ok (.invokestatic 116, 3) := by decide +kernel
theorem dX7_shares_48 : decode cX7_shares 48 = .ok (.ifCond .eq 9, 3) := by decide +kernel
theorem dX7_shares_51 : decode cX7_shares 51 = .ok (.iinc 4 1, 3) := by decide +kernel
theorem dX7_shares_54 : decode cX7_shares 54 = .ok (.goto (-36), 3) := by decide +kernel
theorem dX7_shares_57 : decode cX7_shares 57 = .ok (.iload_n 3, 1) := by decide +kernel
theorem dX7_shares_58 : decode cX7_shares 58 = .ok (.iload_n 1, 1) := by decide +kernel
theorem dX7_shares_59 : decode cX7_shares 59 = .ok (.if_icmp .eq 14, 3) := by decide +kernel
theorem dX7_shares_62 : decode cX7_shares 62 = .ok (.iload 4, 2) := by decide +kernel
theorem dX7_shares_64 : decode cX7_shares 64 = .ok (.iload_n 2, 1) := by decide +kernel
theorem dX7_shares_65 : decode cX7_shares 65 = .ok (.if_icmp .le 8, 3) := by decide +kernel
theorem dX7_shares_68 : decode cX7_shares 68 = .ok (.iload 4, 2) := by decide +kernel
theorem dX7_shares_70 : decode cX7_shares 70 = .ok (.goto 4, 3) := by decide +kernel
theorem dX7_shares_73 : decode cX7_shares 73 = .ok (.iload_n 2, 1) := by decide +kernel
theorem dX7_shares_74 : decode cX7_shares 74 = .ok (.istore_n 2, 1) := by decide +kernel
theorem dX7_shares_75 : decode cX7_shares 75 = .ok (.iinc 3 1, 3) := by decide +kernel
theorem dX7_shares_78 : decode cX7_shares 78 = .ok (.goto (-73), 3) := by decide +kernel
theorem dX7_shares_81 : decode cX7_shares 81 = .ok (.iload_n 2, 1) := by decide +kernel
theorem dX7_shares_82 : decode cX7_shares 82 = .ok (.ireturn, 1) := by decide +kernel
theorem dX7_ofCard_0 : decode cX7_ofCard 0 = .ok (.aload_n 0, 1) := by decide +kernel
theorem dX7_ofCard_1 : decode cX7_ofCard 1 = .ok (.iload_n 1, 1) := by decide +kernel
theorem dX7_ofCard_2 : decode cX7_ofCard 2 = .ok (.invokevirtual 67, 3) := by decide +kernel
theorem dX7_ofCard_5 : decode cX7_ofCard 5 = .ok (.istore_n 3, 1) := by decide +kernel
theorem dX7_ofCard_6 : decode cX7_ofCard 6 = .ok (.iload_n 3, 1) := by decide +kernel
theorem dX7_ofCard_7 : decode cX7_ofCard 7 = .ok (.bipush (-5), 2) := by decide +kernel
theorem dX7_ofCard_9 : decode cX7_ofCard 9 = .ok (.if_icmp .ne 5, 3) := by decide +kernel
theorem dX7_ofCard_12 : decode cX7_ofCard 12 = .ok (.iconst (-1), 1) := by decide +kernel
theorem dX7_ofCard_13 : decode cX7_ofCard 13 = .ok (.ireturn, 1) := by decide +kernel
theorem dX7_ofCard_14 : decode cX7_ofCard 14 = .ok (.iload_n 2, 1) := by decide +kernel
theorem dX7_ofCard_15 : decode cX7_ofCard 15 = .ok (.iconst 0, 1) := by decide +kernel
theorem dX7_ofCard_16 : decode cX7_ofCard 16 = .ok (.iconst 3, 1) := by decide +kernel
theorem dX7_ofCard_17 : decode cX7_ofCard 17 = .ok (.invokestatic 63, 3) := by decide +kernel
theorem dX7_ofCard_20 : decode cX7_ofCard 20 = .ok (.ifCond .ne 6, 3) := by decide +kernel
theorem dX7_ofCard_23 : decode cX7_ofCard 23 = .ok (.bipush (-2), 2) := by decide +kernel
theorem dX7_ofCard_25 : decode cX7_ofCard 25 = .ok (.ireturn, 1) := by decide +kernel
theorem dX7_ofCard_26 : decode cX7_ofCard 26 = .ok (.iload_n 2, 1) := by decide +kernel
theorem dX7_ofCard_27 : decode cX7_ofCard 27 = .ok (.iconst 3, 1) := by decide +kernel
theorem dX7_ofCard_28 : decode cX7_ofCard 28 = .ok (.if_icmp .ne 11, 3) := by decide +kernel
theorem dX7_ofCard_31 : decode cX7_ofCard 31 = .ok (.aload_n 0, 1) := by decide +kernel
theorem dX7_ofCard_32 : decode cX7_ofCard 32 = .ok (.iload_n 3, 1) := by decide +kernel
theorem dX7_ofCard_33 : decode cX7_ofCard 33 = .ok (.invokevirtual 195, 3) := by decide +kernel
theorem dX7_ofCard_36 : decode cX7_ofCard 36 = .ok (.goto 11, 3) := by decide +kernel
theorem dX7_ofCard_39 : decode cX7_ofCard 39 = .ok (.aload_n 0, 1) := by decide +kernel
theorem dX7_ofCard_40 : decode cX7_ofCard 40 = .ok (.iload_n 3, 1) := by decide +kernel
theorem dX7_ofCard_41 : decode cX7_ofCard 41 = .ok (.iconst 1, 1) := by decide +kernel
theorem dX7_ofCard_42 : decode cX7_ofCard 42 = .ok (.iload_n 2, 1) := by decide +kernel
theorem dX7_ofCard_43 : decode cX7_ofCard 43 = .ok (.iadd, 1) := by decide +kernel
theorem dX7_ofCard_44 : decode cX7_ofCard 44 = .ok (.invokevirtual 40, 3) := by decide +kernel
theorem dX7_ofCard_47 : decode cX7_ofCard 47 = .ok (.ireturn, 1) := by decide +kernel
theorem dX7_told_0 : decode cX7_told 0 = .ok (.iload_n 1, 1) := by decide +kernel
theorem dX7_told_1 : decode cX7_told 1 = .ok (.ifCond .ge 8, 3) := by decide +kernel
theorem dX7_told_4 : decode cX7_told 4 = .ok (.bipush (-2), 2) := by decide +kernel
theorem dX7_told_6 : decode cX7_told 6 = .ok (.goto 27, 3) := by decide +kernel
theorem dX7_told_9 : decode cX7_told 9 = .ok (.iload_n 1, 1) := by decide +kernel
theorem dX7_told_10 : decode cX7_told 10 = .ok (.aload_n 0, 1) := by decide +kernel
theorem dX7_told_11 : decode cX7_told 11 = .ok (.getfield 7, 3) := by decide +kernel
theorem dX7_told_14 : decode cX7_told 14 = .ok (.iconst 1, 1) := by decide +kernel
theorem dX7_told_15 : decode cX7_told 15 = .ok (.iaload, 1) := by decide +kernel
theorem dX7_told_16 : decode cX7_told 16 = .ok (.if_icmp .ge 15, 3) := by decide +kernel
theorem dX7_told_19 : decode cX7_told 19 = .ok (.aload_n 0, 1) := by decide +kernel
theorem dX7_told_20 : decode cX7_told 20 = .ok (.getfield 7, 3) := by decide +kernel
theorem dX7_told_23 : decode cX7_told 23 = .ok (.bipush 93, 2) := by decide +kernel
theorem dX7_told_25 : decode cX7_told 25 = .ok (.iload_n 1, 1) := by decide +kernel
theorem dX7_told_26 : decode cX7_told 26 = .ok (.iadd, 1) := by decide +kernel
theorem dX7_told_27 : decode cX7_told 27 = .ok (.iaload, 1) := by decide +kernel
theorem dX7_told_28 : decode cX7_told 28 = .ok (.goto 5, 3) := by decide +kernel
theorem dX7_told_31 : decode cX7_told 31 = .ok (.bipush (-5), 2) := by decide +kernel
theorem dX7_told_33 : decode cX7_told 33 = .ok (.ireturn, 1) := by decide +kernel
theorem dX7_leaving_0 : decode cX7_leaving 0 = .ok (.iconst 0, 1) := by decide +kernel
theorem dX7_leaving_1 : decode cX7_leaving 1 = .ok (.istore_n 1, 1) := by decide +kernel
theorem dX7_leaving_2 : decode cX7_leaving 2 = .ok (.iconst 0, 1) := by decide +kernel
theorem dX7_leaving_3 : decode cX7_leaving 3 = .ok (.istore_n 2, 1) := by decide +kernel
theorem dX7_leaving_4 : decode cX7_leaving 4 = .ok (.iload_n 2, 1) := by decide +kernel
theorem dX7_leaving_5 : decode cX7_leaving 5 = .ok (.aload_n 0, 1) := by decide +kernel
theorem dX7_leaving_6 : decode cX7_leaving 6 = .ok (.getfield 7, 3) := by decide +kernel
theorem dX7_leaving_9 : decode cX7_leaving 9 = .ok (.iconst 0, 1) := by decide +kernel
theorem dX7_leaving_10 : decode cX7_leaving 10 = .ok (.iaload, 1) := by decide +kernel
theorem dX7_leaving_11 : decode cX7_leaving 11 = .ok (.if_icmp .ge 26, 3) := by decide +kernel
theorem dX7_leaving_14 : decode cX7_leaving 14 = .ok (.iload_n 1, 1) := by decide +kernel
theorem dX7_leaving_15 : decode cX7_leaving 15 = .ok (.aload_n 0, 1) := by decide +kernel
theorem dX7_leaving_16 : decode cX7_leaving 16 = .ok (.iload_n 2, 1) := by decide +kernel
theorem dX7_leaving_17 : decode cX7_leaving 17 = .ok (.iconst 2, 1) := by decide +kernel
theorem dX7_leaving_18 : decode cX7_leaving 18 = .ok (.invokevirtual 40, 3) := by decide +kernel
theorem dX7_leaving_21 : decode cX7_leaving 21 = .ok (.ifCond .le 7, 3) := by decide +kernel
theorem dX7_leaving_24 : decode cX7_leaving 24 = .ok (.iconst 1, 1) := by decide +kernel
theorem dX7_leaving_25 : decode cX7_leaving 25 = .ok (.goto 4, 3) := by decide +kernel
theorem dX7_leaving_28 : decode cX7_leaving 28 = .ok (.iconst 0, 1) := by decide +kernel
theorem dX7_leaving_29 : decode cX7_leaving 29 = .ok (.iadd, 1) := by decide +kernel
theorem dX7_leaving_30 : decode cX7_leaving 30 = .ok (.istore_n 1, 1) := by decide +kernel
theorem dX7_leaving_31 : decode cX7_leaving 31 = .ok (.iinc 2 1, 3) := by decide +kernel
theorem dX7_leaving_34 : decode cX7_leaving 34 = .ok (.goto (-30), 3) := by decide +kernel
theorem dX7_leaving_37 : decode cX7_leaving 37 = .ok (.iload_n 1, 1) := by decide +kernel
theorem dX7_leaving_38 : decode cX7_leaving 38 = .ok (.ireturn, 1) := by decide +kernel
theorem dX7_total_0 : decode cX7_total 0 = .ok (.iload_n 1, 1) := by decide +kernel
theorem dX7_total_1 : decode cX7_total 1 = .ok (.tableswitch 155 0 16 #[83, 90, 95, 100, 107, 107, 107, 107, 107, 107, 107, 118, 118, 130, 137, 145, 150], 83) := by decide +kernel
theorem dX7_total_84 : decode cX7_total 84 = .ok (.aload_n 0, 1) := by decide +kernel
theorem dX7_total_85 : decode cX7_total 85 = .ok (.getfield 7, 3) := by decide +kernel
theorem dX7_total_88 : decode cX7_total 88 = .ok (.iconst 0, 1) := by decide +kernel
theorem dX7_total_89 : decode cX7_total 89 = .ok (.iaload, 1) := by decide +kernel
theorem dX7_total_90 : decode cX7_total 90 = .ok (.ireturn, 1) := by decide +kernel
theorem dX7_total_91 : decode cX7_total 91 = .ok (.aload_n 0, 1) := by decide +kernel
theorem dX7_total_92 : decode cX7_total 92 = .ok (.invokevirtual 85, 3) := by decide +kernel
theorem dX7_total_95 : decode cX7_total 95 = .ok (.ireturn, 1) := by decide +kernel
theorem dX7_total_96 : decode cX7_total 96 = .ok (.aload_n 0, 1) := by decide +kernel
theorem dX7_total_97 : decode cX7_total 97 = .ok (.invokevirtual 198, 3) := by decide +kernel
theorem dX7_total_100 : decode cX7_total 100 = .ok (.ireturn, 1) := by decide +kernel
theorem dX7_total_101 : decode cX7_total 101 = .ok (.aload_n 0, 1) := by decide +kernel
theorem dX7_total_102 : decode cX7_total 102 = .ok (.getfield 7, 3) := by decide +kernel
theorem dX7_total_105 : decode cX7_total 105 = .ok (.iconst 1, 1) := by decide +kernel
theorem dX7_total_106 : decode cX7_total 106 = .ok (.iaload, 1) := by decide +kernel
theorem dX7_total_107 : decode cX7_total 107 = .ok (.ireturn, 1) := by decide +kernel
theorem dX7_total_108 : decode cX7_total 108 = .ok (.aload_n 0, 1) := by decide +kernel
theorem dX7_total_109 : decode cX7_total 109 = .ok (.getfield 7, 3) := by decide +kernel
theorem dX7_total_112 : decode cX7_total 112 = .ok (.iconst 5, 1) := by decide +kernel
theorem dX7_total_113 : decode cX7_total 113 = .ok (.iload_n 1, 1) := by decide +kernel
theorem dX7_total_114 : decode cX7_total 114 = .ok (.iadd, 1) := by decide +kernel
theorem dX7_total_115 : decode cX7_total 115 = .ok (.iconst 4, 1) := by decide +kernel
theorem dX7_total_116 : decode cX7_total 116 = .ok (.isub, 1) := by decide +kernel
theorem dX7_total_117 : decode cX7_total 117 = .ok (.iaload, 1) := by decide +kernel
theorem dX7_total_118 : decode cX7_total 118 = .ok (.ireturn, 1) := by decide +kernel
theorem dX7_total_119 : decode cX7_total 119 = .ok (.aload_n 0, 1) := by decide +kernel
theorem dX7_total_120 : decode cX7_total 120 = .ok (.getfield 7, 3) := by decide +kernel
theorem dX7_total_123 : decode cX7_total 123 = .ok (.iconst 2, 1) := by decide +kernel
theorem dX7_total_124 : decode cX7_total 124 = .ok (.iload_n 1, 1) := by decide +kernel
theorem dX7_total_125 : decode cX7_total 125 = .ok (.iadd, 1) := by decide +kernel
theorem dX7_total_126 : decode cX7_total 126 = .ok (.bipush 11, 2) := by decide +kernel
theorem dX7_total_128 : decode cX7_total 128 = .ok (.isub, 1) := by decide +kernel
theorem dX7_total_129 : decode cX7_total 129 = .ok (.iaload, 1) := by decide +kernel
theorem dX7_total_130 : decode cX7_total 130 = .ok (.ireturn, 1) := by decide +kernel
theorem dX7_total_131 : decode cX7_total 131 = .ok (.aload_n 0, 1) := by decide +kernel
theorem dX7_total_132 : decode cX7_total 132 = .ok (.getfield 7, 3) := by decide +kernel
theorem dX7_total_135 : decode cX7_total 135 = .ok (.iconst 4, 1) := by decide +kernel
theorem dX7_total_136 : decode cX7_total 136 = .ok (.iaload, 1) := by decide +kernel
theorem dX7_total_137 : decode cX7_total 137 = .ok (.ireturn, 1) := by decide +kernel
theorem dX7_total_138 : decode cX7_total 138 = .ok (.aload_n 0, 1) := by decide +kernel
theorem dX7_total_139 : decode cX7_total 139 = .ok (.getfield 7, 3) := by decide +kernel
theorem dX7_total_142 : decode cX7_total 142 = .ok (.bipush 12, 2) := by decide +kernel
theorem dX7_total_144 : decode cX7_total 144 = .ok (.iaload, 1) := by decide +kernel
theorem dX7_total_145 : decode cX7_total 145 = .ok (.ireturn, 1) := by decide +kernel
theorem dX7_total_146 : decode cX7_total 146 = .ok (.aload_n 0, 1) := by decide +kernel
theorem dX7_total_147 : decode cX7_total 147 = .ok (.getfield 44, 3) := by decide +kernel
theorem dX7_total_150 : decode cX7_total 150 = .ok (.ireturn, 1) := by decide +kernel
theorem dX7_total_151 : decode cX7_total 151 = .ok (.aload_n 0, 1) := by decide +kernel
theorem dX7_total_152 : decode cX7_total 152 = .ok (.getfield 163, 3) := by decide +kernel
theorem dX7_total_155 : decode cX7_total 155 = .ok (.ireturn, 1) := by decide +kernel
theorem dX7_total_156 : decode cX7_total 156 = .ok (.bipush (-2), 2) := by decide +kernel
theorem dX7_total_158 : decode cX7_total 158 = .ok (.ireturn, 1) := by decide +kernel
theorem dX7_withBeginning_0 : decode cX7_withBeginning 0 = .ok (.iconst 0, 1) := by decide +kernel
theorem dX7_withBeginning_1 : decode cX7_withBeginning 1 = .ok (.istore_n 3, 1) := by decide +kernel
theorem dX7_withBeginning_2 : decode cX7_withBeginning 2 = .ok (.iconst 0, 1) := by decide +kernel
theorem dX7_withBeginning_3 : decode cX7_withBeginning 3 = .ok (.istore 4, 2) := by decide +kernel
theorem dX7_withBeginning_5 : decode cX7_withBeginning 5 = .ok (.iload 4, 2) := by decide +kernel
theorem dX7_withBeginning_7 : decode cX7_withBeginning 7 = .ok (.aload_n 0, 1) := by decide +kernel
theorem dX7_withBeginning_8 : decode cX7_withBeginning 8 = .ok (.getfield 7, 3) := by decide +kernel
theorem dX7_withBeginning_11 : decode cX7_withBeginning 11 = .ok (.iconst 0, 1) := by decide +kernel
theorem dX7_withBeginning_12 : decode cX7_withBeginning 12 = .ok (.iaload, 1) := by decide +kernel
theorem dX7_withBeginning_13 : decode cX7_withBeginning 13 = .ok (.if_icmp .ge 43, 3) := by decide +kernel
theorem dX7_withBeginning_16 : decode cX7_withBeginning 16 = .ok (.iload_n 3, 1) := by decide +kernel
theorem dX7_withBeginning_17 : decode cX7_withBeginning 17 = .ok (.aload_n 0, 1) := by decide +kernel
theorem dX7_withBeginning_18 : decode cX7_withBeginning 18 = .ok (.iload 4, 2) := by decide +kernel
theorem dX7_withBeginning_20 : decode cX7_withBeginning 20 = .ok (.iconst 1, 1) := by decide +kernel
theorem dX7_withBeginning_21 : decode cX7_withBeginning 21 = .ok (.invokevirtual 40, 3) := by decide +kernel
theorem dX7_withBeginning_24 : decode cX7_withBeginning 24 = .ok (.iconst 1, 1) := by decide +kernel
theorem dX7_withBeginning_25 : decode cX7_withBeginning 25 = .ok (.if_icmp .ne 22, 3) := by decide +kernel
theorem dX7_withBeginning_28 : decode cX7_withBeginning 28 = .ok (.aload_n 0, 1) := by decide +kernel
theorem dX7_withBeginning_29 : decode cX7_withBeginning 29 = .ok (.iload 4, 2) := by decide +kernel
theorem dX7_withBeginning_31 : decode cX7_withBeginning 31 = .ok (.iconst 0, 1) := by decide +kernel
theorem dX7_withBeginning_32 : decode cX7_withBeginning 32 = .ok (.invokevirtual 40, 3) := by decide +kernel
theorem dX7_withBeginning_35 : decode cX7_withBeginning 35 = .ok (.iload_n 1, 1) := by decide +kernel
theorem dX7_withBeginning_36 : decode cX7_withBeginning 36 = .ok (.iload_n 2, 1) := by decide +kernel
theorem dX7_withBeginning_37 : decode cX7_withBeginning 37 = .ok (.invokestatic 116, 3) := by decide +kernel
theorem dX7_withBeginning_40 : decode cX7_withBeginning 40 = .ok (.ifCond .eq 7, 3) := by decide +kernel
theorem dX7_withBeginning_43 : decode cX7_withBeginning 43 = .ok (.iconst 1, 1) := by decide +kernel
theorem dX7_withBeginning_44 : decode cX7_withBeginning 44 = .ok (.goto 4, 3) := by decide +kernel
theorem dX7_withBeginning_47 : decode cX7_withBeginning 47 = .ok (.iconst 0, 1) := by decide +kernel
theorem dX7_withBeginning_48 : decode cX7_withBeginning 48 = .ok (.iadd, 1) := by decide +kernel
theorem dX7_withBeginning_49 : decode cX7_withBeginning 49 = .ok (.istore_n 3, 1) := by decide +kernel
theorem dX7_withBeginning_50 : decode cX7_withBeginning 50 = .ok (.iinc 4 1, 3) := by decide +kernel
theorem dX7_withBeginning_53 : decode cX7_withBeginning 53 = .ok (.goto (-48), 3) := by decide +kernel
theorem dX7_withBeginning_56 : decode cX7_withBeginning 56 = .ok (.iload_n 3, 1) := by decide +kernel
theorem dX7_withBeginning_57 : decode cX7_withBeginning 57 = .ok (.ireturn, 1) := by decide +kernel
theorem dX7_count_0 : decode cX7_count 0 = .ok (.iload_n 1, 1) := by decide +kernel
theorem dX7_count_1 : decode cX7_count 1 = .ok (.iload_n 2, 1) := by decide +kernel
theorem dX7_count_2 : decode cX7_count 2 = .ok (.invokestatic 125, 3) := by decide +kernel
theorem dX7_count_5 : decode cX7_count 5 = .ok (.ifCond .eq 12, 3) := by decide +kernel
theorem dX7_count_8 : decode cX7_count 8 = .ok (.aload_n 0, 1) := by decide +kernel
theorem dX7_count_9 : decode cX7_count 9 = .ok (.iload_n 1, 1) := by decide +kernel
theorem dX7_count_10 : decode cX7_count 10 = .ok (.iload_n 2, 1) := by decide +kernel
theorem dX7_count_11 : decode cX7_count 11 = .ok (.invokevirtual 201, 3) := by decide +kernel
theorem dX7_count_14 : decode cX7_count 14 = .ok (.goto 5, 3) := by decide +kernel
theorem dX7_count_17 : decode cX7_count 17 = .ok (.bipush (-2), 2) := by decide +kernel
theorem dX7_count_19 : decode cX7_count 19 = .ok (.ireturn, 1) := by decide +kernel
theorem dX7_walkTakes_0 : decode cX7_walkTakes 0 = .ok (.iload_n 2, 1) := by decide +kernel
theorem dX7_walkTakes_1 : decode cX7_walkTakes 1 = .ok (.iconst 0, 1) := by decide +kernel
theorem dX7_walkTakes_2 : decode cX7_walkTakes 2 = .ok (.iconst 4, 1) := by decide +kernel
theorem dX7_walkTakes_3 : decode cX7_walkTakes 3 = .ok (.invokestatic 63, 3) := by decide +kernel
theorem dX7_walkTakes_6 : decode cX7_walkTakes 6 = .ok (.ifCond .ne 6, 3) := by decide +kernel
theorem dX7_walkTakes_9 : decode cX7_walkTakes 9 = .ok (.bipush (-2), 2) := by decide +kernel
theorem dX7_walkTakes_11 : decode cX7_walkTakes 11 = .ok (.ireturn, 1) := by decide +kernel
theorem dX7_walkTakes_12 : decode cX7_walkTakes 12 = .ok (.aload_n 0, 1) := by decide +kernel
theorem dX7_walkTakes_13 : decode cX7_walkTakes 13 = .ok (.getfield 7, 3) := by decide +kernel
theorem dX7_walkTakes_16 : decode cX7_walkTakes 16 = .ok (.iconst 0, 1) := by decide +kernel
theorem dX7_walkTakes_17 : decode cX7_walkTakes 17 = .ok (.aload_n 0, 1) := by decide +kernel
theorem dX7_walkTakes_18 : decode cX7_walkTakes 18 = .ok (.getfield 13, 3) := by decide +kernel
theorem dX7_walkTakes_21 : decode cX7_walkTakes 21 = .ok (.iconst 0, 1) := by decide +kernel
theorem dX7_walkTakes_22 : decode cX7_walkTakes 22 = .ok (.invokestatic 48, 3) := by decide +kernel
theorem dX7_walkTakes_25 : decode cX7_walkTakes 25 = .ok (.aload_n 0, 1) := by decide +kernel
theorem dX7_walkTakes_26 : decode cX7_walkTakes 26 = .ok (.iload_n 1, 1) := by decide +kernel
theorem dX7_walkTakes_27 : decode cX7_walkTakes 27 = .ok (.invokevirtual 135, 3) := by decide +kernel
theorem dX7_walkTakes_30 : decode cX7_walkTakes 30 = .ok (.iload_n 2, 1) := by decide +kernel
theorem dX7_walkTakes_31 : decode cX7_walkTakes 31 = .ok (.ifCond .ne 7, 3) := by decide +kernel
theorem dX7_walkTakes_34 : decode cX7_walkTakes 34 = .ok (.iconst 5, 1) := by decide +kernel
theorem dX7_walkTakes_35 : decode cX7_walkTakes 35 = .ok (.goto 25, 3) := by decide +kernel
theorem dX7_walkTakes_38 : decode cX7_walkTakes 38 = .ok (.iload_n 2, 1) := by decide +kernel
theorem dX7_walkTakes_39 : decode cX7_walkTakes 39 = .ok (.iconst 1, 1) := by decide +kernel
theorem dX7_walkTakes_40 : decode cX7_walkTakes 40 = .ok (.if_icmp .ne 8, 3) := by decide +kernel
theorem dX7_walkTakes_43 : decode cX7_walkTakes 43 = .ok (.bipush 10, 2) := by decide +kernel
theorem dX7_walkTakes_45 : decode cX7_walkTakes 45 = .ok (.goto 15, 3) := by decide +kernel
theorem dX7_walkTakes_48 : decode cX7_walkTakes 48 = .ok (.iload_n 2, 1) := by decide +kernel
theorem dX7_walkTakes_49 : decode cX7_walkTakes 49 = .ok (.iconst 2, 1) := by decide +kernel
theorem dX7_walkTakes_50 : decode cX7_walkTakes 50 = .ok (.if_icmp .ne 8, 3) := by decide +kernel
theorem dX7_walkTakes_53 : decode cX7_walkTakes 53 = .ok (.bipush 8, 2) := by decide +kernel
theorem dX7_walkTakes_55 : decode cX7_walkTakes 55 = .ok (.goto 5, 3) := by decide +kernel
theorem dX7_walkTakes_58 : decode cX7_walkTakes 58 = .ok (.bipush 9, 2) := by decide +kernel
theorem dX7_walkTakes_60 : decode cX7_walkTakes 60 = .ok (.istore_n 3, 1) := by decide +kernel
theorem dX7_walkTakes_61 : decode cX7_walkTakes 61 = .ok (.aload_n 0, 1) := by decide +kernel
theorem dX7_walkTakes_62 : decode cX7_walkTakes 62 = .ok (.getfield 7, 3) := by decide +kernel
theorem dX7_walkTakes_65 : decode cX7_walkTakes 65 = .ok (.iload_n 3, 1) := by decide +kernel
theorem dX7_walkTakes_66 : decode cX7_walkTakes 66 = .ok (.iaload, 1) := by decide +kernel
theorem dX7_walkTakes_67 : decode cX7_walkTakes 67 = .ok (.aload_n 0, 1) := by decide +kernel
theorem dX7_walkTakes_68 : decode cX7_walkTakes 68 = .ok (.getfield 13, 3) := by decide +kernel
theorem dX7_walkTakes_71 : decode cX7_walkTakes 71 = .ok (.iload_n 3, 1) := by decide +kernel
theorem dX7_walkTakes_72 : decode cX7_walkTakes 72 = .ok (.iaload, 1) := by decide +kernel
theorem dX7_walkTakes_73 : decode cX7_walkTakes 73 = .ok (.isub, 1) := by decide +kernel
theorem dX7_walkTakes_74 : decode cX7_walkTakes 74 = .ok (.istore 4, 2) := by decide +kernel
theorem dX7_walkTakes_76 : decode cX7_walkTakes 76 = .ok (.aload_n 0, 1) := by decide +kernel
theorem dX7_walkTakes_77 : decode cX7_walkTakes 77 = .ok (.getfield 13, 3) := by decide +kernel
theorem dX7_walkTakes_80 : decode cX7_walkTakes 80 = .ok (.iconst 0, 1) := by decide +kernel
theorem dX7_walkTakes_81 : decode cX7_walkTakes 81 = .ok (.aload_n 0, 1) := by decide +kernel
theorem dX7_walkTakes_82 : decode cX7_walkTakes 82 = .ok (.getfield 7, 3) := by decide +kernel
theorem dX7_walkTakes_85 : decode cX7_walkTakes 85 = .ok (.iconst 0, 1) := by decide +kernel
theorem dX7_walkTakes_86 : decode cX7_walkTakes 86 = .ok (.invokestatic 48, 3) := by decide +kernel
theorem dX7_walkTakes_89 : decode cX7_walkTakes 89 = .ok (.iload_n 2, 1) := by decide +kernel
theorem dX7_walkTakes_90 : decode cX7_walkTakes 90 = .ok (.iconst 4, 1) := by decide +kernel
theorem dX7_walkTakes_91 : decode cX7_walkTakes 91 = .ok (.if_icmp .ne 10, 3) := by decide +kernel
theorem dX7_walkTakes_94 : decode cX7_walkTakes 94 = .ok (.aload_n 0, 1) := by decide +kernel
theorem dX7_walkTakes_95 : decode cX7_walkTakes 95 = .ok (.getfield 132, 3) := by decide +kernel
theorem dX7_walkTakes_98 : decode cX7_walkTakes 98 = .ok (.goto 5, 3) := by decide +kernel
theorem dX7_walkTakes_101 : decode cX7_walkTakes 101 = .ok (.iload 4, 2) := by decide +kernel
theorem dX7_walkTakes_103 : decode cX7_walkTakes 103 = .ok (.ireturn, 1) := by decide +kernel
theorem dX7_roundsTake_0 : decode cX7_roundsTake 0 = .ok (.iload_n 1, 1) := by decide +kernel
theorem dX7_roundsTake_1 : decode cX7_roundsTake 1 = .ok (.invokestatic 149, 3) := by decide +kernel
theorem dX7_roundsTake_4 : decode cX7_roundsTake 4 = .ok (.ifCond .eq 12, 3) := by decide +kernel
theorem dX7_roundsTake_7 : decode cX7_roundsTake 7 = .ok (.iload_n 2, 1) := by decide +kernel
theorem dX7_roundsTake_8 : decode cX7_roundsTake 8 = .ok (.iconst 0, 1) := by decide +kernel
theorem dX7_roundsTake_9 : decode cX7_roundsTake 9 = .ok (.iconst 4, 1) := by decide +kernel
theorem dX7_roundsTake_10 : decode cX7_roundsTake 10 = .ok (.invokestatic 63, 3) := by decide +kernel
theorem dX7_roundsTake_13 : decode cX7_roundsTake 13 = .ok (.ifCond .ne 6, 3) := by decide +kernel
theorem dX7_roundsTake_16 : decode cX7_roundsTake 16 = .ok (.bipush (-2), 2) := by decide +kernel
theorem dX7_roundsTake_18 : decode cX7_roundsTake 18 = .ok (.ireturn, 1) := by decide +kernel
theorem dX7_roundsTake_19 : decode cX7_roundsTake 19 = .ok (.aload_n 0, 1) := by decide +kernel
theorem dX7_roundsTake_20 : decode cX7_roundsTake 20 = .ok (.getfield 7, 3) := by decide +kernel
theorem dX7_roundsTake_23 : decode cX7_roundsTake 23 = .ok (.iconst 0, 1) := by decide +kernel
theorem dX7_roundsTake_24 : decode cX7_roundsTake 24 = .ok (.aload_n 0, 1) := by decide +kernel
theorem dX7_roundsTake_25 : decode cX7_roundsTake 25 = .ok (.getfield 13, 3) := by decide +kernel
theorem dX7_roundsTake_28 : decode cX7_roundsTake 28 = .ok (.iconst 0, 1) := by decide +kernel
theorem dX7_roundsTake_29 : decode cX7_roundsTake 29 = .ok (.invokestatic 48, 3) := by decide +kernel
theorem dX7_roundsTake_32 : decode cX7_roundsTake 32 = .ok (.aload_n 0, 1) := by decide +kernel
theorem dX7_roundsTake_33 : decode cX7_roundsTake 33 = .ok (.iload_n 1, 1) := by decide +kernel
theorem dX7_roundsTake_34 : decode cX7_roundsTake 34 = .ok (.invokevirtual 160, 3) := by decide +kernel
theorem dX7_roundsTake_37 : decode cX7_roundsTake 37 = .ok (.pop, 1) := by decide +kernel
theorem dX7_roundsTake_38 : decode cX7_roundsTake 38 = .ok (.iload_n 2, 1) := by decide +kernel
theorem dX7_roundsTake_39 : decode cX7_roundsTake 39 = .ok (.ifCond .ne 8, 3) := by decide +kernel
theorem dX7_roundsTake_42 : decode cX7_roundsTake 42 = .ok (.bipush 11, 2) := by decide +kernel
theorem dX7_roundsTake_44 : decode cX7_roundsTake 44 = .ok (.goto 35, 3) := by decide +kernel
theorem dX7_roundsTake_47 : decode cX7_roundsTake 47 = .ok (.iload_n 2, 1) := by decide +kernel
theorem dX7_roundsTake_48 : decode cX7_roundsTake 48 = .ok (.iconst 1, 1) := by decide +kernel
theorem dX7_roundsTake_49 : decode cX7_roundsTake 49 = .ok (.if_icmp .ne 8, 3) := by decide +kernel
theorem dX7_roundsTake_52 : decode cX7_roundsTake 52 = .ok (.bipush 10, 2) := by decide +kernel
theorem dX7_roundsTake_54 : decode cX7_roundsTake 54 = .ok (.goto 25, 3) := by decide +kernel
theorem dX7_roundsTake_57 : decode cX7_roundsTake 57 = .ok (.iload_n 2, 1) := by decide +kernel
theorem dX7_roundsTake_58 : decode cX7_roundsTake 58 = .ok (.iconst 2, 1) := by decide +kernel
theorem dX7_roundsTake_59 : decode cX7_roundsTake 59 = .ok (.if_icmp .ne 8, 3) := by decide +kernel
theorem dX7_roundsTake_62 : decode cX7_roundsTake 62 = .ok (.bipush 8, 2) := by decide +kernel
theorem dX7_roundsTake_64 : decode cX7_roundsTake 64 = .ok (.goto 15, 3) := by decide +kernel
theorem dX7_roundsTake_67 : decode cX7_roundsTake 67 = .ok (.iload_n 2, 1) := by decide +kernel
theorem dX7_roundsTake_68 : decode cX7_roundsTake 68 = .ok (.iconst 3, 1) := by decide +kernel
theorem dX7_roundsTake_69 : decode cX7_roundsTake 69 = .ok (.if_icmp .ne 8, 3) := by decide +kernel
theorem dX7_roundsTake_72 : decode cX7_roundsTake 72 = .ok (.bipush 9, 2) := by decide +kernel
theorem dX7_roundsTake_74 : decode cX7_roundsTake 74 = .ok (.goto 5, 3) := by decide +kernel
theorem dX7_roundsTake_77 : decode cX7_roundsTake 77 = .ok (.bipush 6, 2) := by decide +kernel
theorem dX7_roundsTake_79 : decode cX7_roundsTake 79 = .ok (.istore_n 3, 1) := by decide +kernel
theorem dX7_roundsTake_80 : decode cX7_roundsTake 80 = .ok (.aload_n 0, 1) := by decide +kernel
theorem dX7_roundsTake_81 : decode cX7_roundsTake 81 = .ok (.getfield 7, 3) := by decide +kernel
theorem dX7_roundsTake_84 : decode cX7_roundsTake 84 = .ok (.iload_n 3, 1) := by decide +kernel
theorem dX7_roundsTake_85 : decode cX7_roundsTake 85 = .ok (.iaload, 1) := by decide +kernel
theorem dX7_roundsTake_86 : decode cX7_roundsTake 86 = .ok (.aload_n 0, 1) := by decide +kernel
theorem dX7_roundsTake_87 : decode cX7_roundsTake 87 = .ok (.getfield 13, 3) := by decide +kernel
theorem dX7_roundsTake_90 : decode cX7_roundsTake 90 = .ok (.iload_n 3, 1) := by decide +kernel
theorem dX7_roundsTake_91 : decode cX7_roundsTake 91 = .ok (.iaload, 1) := by decide +kernel
theorem dX7_roundsTake_92 : decode cX7_roundsTake 92 = .ok (.isub, 1) := by decide +kernel
theorem dX7_roundsTake_93 : decode cX7_roundsTake 93 = .ok (.istore 4, 2) := by decide +kernel
theorem dX7_roundsTake_95 : decode cX7_roundsTake 95 = .ok (.aload_n 0, 1) := by decide +kernel
theorem dX7_roundsTake_96 : decode cX7_roundsTake 96 = .ok (.getfield 13, 3) := by decide +kernel
theorem dX7_roundsTake_99 : decode cX7_roundsTake 99 = .ok (.iconst 0, 1) := by decide +kernel
theorem dX7_roundsTake_100 : decode cX7_roundsTake 100 = .ok (.aload_n 0, 1) := by decide +kernel
theorem dX7_roundsTake_101 : decode cX7_roundsTake 101 = .ok (.getfield 7, 3) := by decide +kernel
theorem dX7_roundsTake_104 : decode cX7_roundsTake 104 = .ok (.iconst 0, 1) := by decide +kernel
theorem dX7_roundsTake_105 : decode cX7_roundsTake 105 = .ok (.invokestatic 48, 3) := by decide +kernel
theorem dX7_roundsTake_108 : decode cX7_roundsTake 108 = .ok (.iload 4, 2) := by decide +kernel
theorem dX7_roundsTake_110 : decode cX7_roundsTake 110 = .ok (.ireturn, 1) := by decide +kernel
theorem dX7_bestFrame_0 : decode cX7_bestFrame 0 = .ok (.iconst 0, 1) := by decide +kernel
theorem dX7_bestFrame_1 : decode cX7_bestFrame 1 = .ok (.istore_n 1, 1) := by decide +kernel
theorem dX7_bestFrame_2 : decode cX7_bestFrame 2 = .ok (.iconst (-1), 1) := by decide +kernel
theorem dX7_bestFrame_3 : decode cX7_bestFrame 3 = .ok (.istore_n 2, 1) := by decide +kernel
theorem dX7_bestFrame_4 : decode cX7_bestFrame 4 = .ok (.iconst 0, 1) := by decide +kernel
theorem dX7_bestFrame_5 : decode cX7_bestFrame 5 = .ok (.istore_n 3, 1) := by decide +kernel
theorem dX7_bestFrame_6 : decode cX7_bestFrame 6 = .ok (.aload_n 0, 1) := by decide +kernel
theorem dX7_bestFrame_7 : decode cX7_bestFrame 7 = .ok (.getfield 7, 3) := by decide +kernel
theorem dX7_bestFrame_10 : decode cX7_bestFrame 10 = .ok (.iconst 0, 1) := by decide +kernel
theorem dX7_bestFrame_11 : decode cX7_bestFrame 11 = .ok (.aload_n 0, 1) := by decide +kernel
theorem dX7_bestFrame_12 : decode cX7_bestFrame 12 = .ok (.getfield 13, 3) := by decide +kernel
theorem dX7_bestFrame_15 : decode cX7_bestFrame 15 = .ok (.iconst 0, 1) := by decide +kernel
theorem dX7_bestFrame_16 : decode cX7_bestFrame 16 = .ok (.invokestatic 48, 3) := by decide +kernel
theorem dX7_bestFrame_19 : decode cX7_bestFrame 19 = .ok (.iconst 1, 1) := by decide +kernel
theorem dX7_bestFrame_20 : decode cX7_bestFrame 20 = .ok (.istore 4, 2) := by decide +kernel
theorem dX7_bestFrame_22 : decode cX7_bestFrame 22 = .ok (.iload 4, 2) := by decide +kernel
theorem dX7_bestFrame_24 : decode cX7_bestFrame 24 = .ok (.bipush 64, 2) := by decide +kernel
theorem dX7_bestFrame_26 : decode cX7_bestFrame 26 = .ok (.if_icmp .gt 123, 3) := by decide +kernel
theorem dX7_bestFrame_29 : decode cX7_bestFrame 29 = .ok (.aload_n 0, 1) := by decide +kernel
theorem dX7_bestFrame_30 : decode cX7_bestFrame 30 = .ok (.iload 4, 2) := by decide +kernel
theorem dX7_bestFrame_32 : decode cX7_bestFrame 32 = .ok (.invokevirtual 153, 3) := by decide +kernel
theorem dX7_bestFrame_35 : decode cX7_bestFrame 35 = .ok (.aload_n 0, 1) := by decide +kernel
theorem dX7_bestFrame_36 : decode cX7_bestFrame 36 = .ok (.getfield 7, 3) := by decide +kernel
theorem dX7_bestFrame_39 : decode cX7_bestFrame 39 = .ok (.bipush 8, 2) := by decide +kernel
theorem dX7_bestFrame_41 : decode cX7_bestFrame 41 = .ok (.iaload, 1) := by decide +kernel
theorem dX7_bestFrame_42 : decode cX7_bestFrame 42 = .ok (.aload_n 0, 1) := by decide +kernel
theorem dX7_bestFrame_43 : decode cX7_bestFrame 43 = .ok (.getfield 13, 3) := by decide +kernel
theorem dX7_bestFrame_46 : decode cX7_bestFrame 46 = .ok (.bipush 8, 2) := by decide +kernel
theorem dX7_bestFrame_48 : decode cX7_bestFrame 48 = .ok (.iaload, 1) := by decide +kernel
theorem dX7_bestFrame_49 : decode cX7_bestFrame 49 = .ok (.isub, 1) := by decide +kernel
theorem dX7_bestFrame_50 : decode cX7_bestFrame 50 = .ok (.istore 5, 2) := by decide +kernel
theorem dX7_bestFrame_52 : decode cX7_bestFrame 52 = .ok (.aload_n 0, 1) := by decide +kernel
theorem dX7_bestFrame_53 : decode cX7_bestFrame 53 = .ok (.getfield 7, 3) := by decide +kernel
theorem dX7_bestFrame_56 : decode cX7_bestFrame 56 = .ok (.bipush 10, 2) := by decide +kernel
theorem dX7_bestFrame_58 : decode cX7_bestFrame 58 = .ok (.iaload, 1) := by decide +kernel
theorem dX7_bestFrame_59 : decode cX7_bestFrame 59 = .ok (.aload_n 0, 1) := by decide +kernel
theorem dX7_bestFrame_60 : decode cX7_bestFrame 60 = .ok (.getfield 13, 3) := by decide +kernel
theorem dX7_bestFrame_63 : decode cX7_bestFrame 63 = .ok (.bipush 10, 2) := by decide +kernel
theorem dX7_bestFrame_65 : decode cX7_bestFrame 65 = .ok (.iaload, 1) := by decide +kernel
theorem dX7_bestFrame_66 : decode cX7_bestFrame 66 = .ok (.isub, 1) := by decide +kernel
theorem dX7_bestFrame_67 : decode cX7_bestFrame 67 = .ok (.istore 6, 2) := by decide +kernel
theorem dX7_bestFrame_69 : decode cX7_bestFrame 69 = .ok (.iload 5, 2) := by decide +kernel
theorem dX7_bestFrame_71 : decode cX7_bestFrame 71 = .ok (.iload_n 2, 1) := by decide +kernel
theorem dX7_bestFrame_72 : decode cX7_bestFrame 72 = .ok (.if_icmp .gt 15, 3) := by decide +kernel
theorem dX7_bestFrame_75 : decode cX7_bestFrame 75 = .ok (.iload 5, 2) := by decide +kernel
theorem dX7_bestFrame_77 : decode cX7_bestFrame 77 = .ok (.iload_n 2, 1) := by decide +kernel
theorem dX7_bestFrame_78 : decode cX7_bestFrame 78 = .ok (.if_icmp .ne 13, 3) := by decide +kernel
theorem dX7_bestFrame_81 : decode cX7_bestFrame 81 = .ok (.iload 6, 2) := by decide +kernel
theorem dX7_bestFrame_83 : decode cX7_bestFrame 83 = .ok (.iload_n 3, 1) := by decide +kernel
theorem dX7_bestFrame_84 : decode cX7_bestFrame 84 = .ok (.if_icmp .ge 7, 3) := by decide +kernel
theorem dX7_bestFrame_87 : decode cX7_bestFrame 87 = .ok (.iconst 1, 1) := by decide +kernel
theorem dX7_bestFrame_88 : decode cX7_bestFrame 88 = .ok (.goto 4, 3) := by decide +kernel
theorem dX7_bestFrame_91 : decode cX7_bestFrame 91 = .ok (.iconst 0, 1) := by decide +kernel
theorem dX7_bestFrame_92 : decode cX7_bestFrame 92 = .ok (.istore 7, 2) := by decide +kernel
theorem dX7_bestFrame_94 : decode cX7_bestFrame 94 = .ok (.iload 7, 2) := by decide +kernel
theorem dX7_bestFrame_96 : decode cX7_bestFrame 96 = .ok (.ifCond .eq 8, 3) := by decide +kernel
theorem dX7_bestFrame_99 : decode cX7_bestFrame 99 = .ok (.iload 4, 2) := by decide +kernel
theorem dX7_bestFrame_101 : decode cX7_bestFrame 101 = .ok (.goto 4, 3) := by decide +kernel
theorem dX7_bestFrame_104 : decode cX7_bestFrame 104 = .ok (.iload_n 1, 1) := by decide +kernel
theorem dX7_bestFrame_105 : decode cX7_bestFrame 105 = .ok (.istore_n 1, 1) := by decide +kernel
theorem dX7_bestFrame_106 : decode cX7_bestFrame 106 = .ok (.iload 7, 2) := by decide +kernel
theorem dX7_bestFrame_108 : decode cX7_bestFrame 108 = .ok (.ifCond .eq 8, 3) := by decide +kernel
theorem dX7_bestFrame_111 : decode cX7_bestFrame 111 = .ok (.iload 5, 2) := by decide +kernel
theorem dX7_bestFrame_113 : decode cX7_bestFrame 113 = .ok (.goto 4, 3) := by decide +kernel
theorem dX7_bestFrame_116 : decode cX7_bestFrame 116 = .ok (.iload_n 2, 1) := by decide +kernel
theorem dX7_bestFrame_117 : decode cX7_bestFrame 117 = .ok (.istore_n 2, 1) := by decide +kernel
theorem dX7_bestFrame_118 : decode cX7_bestFrame 118 = .ok (.iload 7, 2) := by decide +kernel
theorem dX7_bestFrame_120 : decode cX7_bestFrame 120 = .ok (.ifCond .eq 8, 3) := by decide +kernel
theorem dX7_bestFrame_123 : decode cX7_bestFrame 123 = .ok (.iload 6, 2) := by decide +kernel
theorem dX7_bestFrame_125 : decode cX7_bestFrame 125 = .ok (.goto 4, 3) := by decide +kernel
theorem dX7_bestFrame_128 : decode cX7_bestFrame 128 = .ok (.iload_n 3, 1) := by decide +kernel
theorem dX7_bestFrame_129 : decode cX7_bestFrame 129 = .ok (.istore_n 3, 1) := by decide +kernel
theorem dX7_bestFrame_130 : decode cX7_bestFrame 130 = .ok (.aload_n 0, 1) := by decide +kernel
theorem dX7_bestFrame_131 : decode cX7_bestFrame 131 = .ok (.getfield 13, 3) := by decide +kernel
theorem dX7_bestFrame_134 : decode cX7_bestFrame 134 = .ok (.iconst 0, 1) := by decide +kernel
theorem dX7_bestFrame_135 : decode cX7_bestFrame 135 = .ok (.aload_n 0, 1) := by decide +kernel
theorem dX7_bestFrame_136 : decode cX7_bestFrame 136 = .ok (.getfield 7, 3) := by decide +kernel
theorem dX7_bestFrame_139 : decode cX7_bestFrame 139 = .ok (.iconst 0, 1) := by decide +kernel
theorem dX7_bestFrame_140 : decode cX7_bestFrame 140 = .ok (.invokestatic 48, 3) := by decide +kernel
theorem dX7_bestFrame_143 : decode cX7_bestFrame 143 = .ok (.iinc 4 1, 3) := by decide +kernel
theorem dX7_bestFrame_146 : decode cX7_bestFrame 146 = .ok (.goto (-124), 3) := by decide +kernel
theorem dX7_bestFrame_149 : decode cX7_bestFrame 149 = .ok (.iload_n 1, 1) := by decide +kernel
theorem dX7_bestFrame_150 : decode cX7_bestFrame 150 = .ok (.ireturn, 1) := by decide +kernel
theorem dX7_thickest_0 : decode cX7_thickest 0 = .ok (.iload_n 1, 1) := by decide +kernel
theorem dX7_thickest_1 : decode cX7_thickest 1 = .ok (.iconst 0, 1) := by decide +kernel
theorem dX7_thickest_2 : decode cX7_thickest 2 = .ok (.bipush 8, 2) := by decide +kernel
theorem dX7_thickest_4 : decode cX7_thickest 4 = .ok (.invokestatic 63, 3) := by decide +kernel
theorem dX7_thickest_7 : decode cX7_thickest 7 = .ok (.ifCond .ne 6, 3) := by decide +kernel
theorem dX7_thickest_10 : decode cX7_thickest 10 = .ok (.bipush (-2), 2) := by decide +kernel
theorem dX7_thickest_12 : decode cX7_thickest 12 = .ok (.ireturn, 1) := by decide +kernel
theorem dX7_thickest_13 : decode cX7_thickest 13 = .ok (.bipush (-5), 2) := by decide +kernel
theorem dX7_thickest_15 : decode cX7_thickest 15 = .ok (.istore_n 2, 1) := by decide +kernel
theorem dX7_thickest_16 : decode cX7_thickest 16 = .ok (.iconst 0, 1) := by decide +kernel
theorem dX7_thickest_17 : decode cX7_thickest 17 = .ok (.istore_n 3, 1) := by decide +kernel
theorem dX7_thickest_18 : decode cX7_thickest 18 = .ok (.iconst 0, 1) := by decide +kernel
theorem dX7_thickest_19 : decode cX7_thickest 19 = .ok (.istore 4, 2) := by decide +kernel
theorem dX7_thickest_21 : decode cX7_thickest 21 = .ok (.iload 4, 2) := by decide +kernel
theorem dX7_thickest_23 : decode cX7_thickest 23 = .ok (.iconst 1, 1) := by decide +kernel
theorem dX7_thickest_24 : decode cX7_thickest 24 = .ok (.iload_n 1, 1) := by decide +kernel
theorem dX7_thickest_25 : decode cX7_thickest 25 = .ok (.ishl, 1) := by decide +kernel
theorem dX7_thickest_26 : decode cX7_thickest 26 = .ok (.if_icmp .ge 44, 3) := by decide +kernel
theorem dX7_thickest_29 : decode cX7_thickest 29 = .ok (.aload_n 0, 1) := by decide +kernel
theorem dX7_thickest_30 : decode cX7_thickest 30 = .ok (.iload_n 1, 1) := by decide +kernel
theorem dX7_thickest_31 : decode cX7_thickest 31 = .ok (.iload 4, 2) := by decide +kernel
theorem dX7_thickest_33 : decode cX7_thickest 33 = .ok (.invokevirtual 201, 3) := by decide +kernel
theorem dX7_thickest_36 : decode cX7_thickest 36 = .ok (.istore 5, 2) := by decide +kernel
theorem dX7_thickest_38 : decode cX7_thickest 38 = .ok (.iload 5, 2) := by decide +kernel
theorem dX7_thickest_40 : decode cX7_thickest 40 = .ok (.iload_n 3, 1) := by decide +kernel
theorem dX7_thickest_41 : decode cX7_thickest 41 = .ok (.if_icmp .le 8, 3) := by decide +kernel
theorem dX7_thickest_44 : decode cX7_thickest 44 = .ok (.iload 4, 2) := by decide +kernel
theorem dX7_thickest_46 : decode cX7_thickest 46 = .ok (.goto 4, 3) := by decide +kernel
theorem dX7_thickest_49 : decode cX7_thickest 49 = .ok (.iload_n 2, 1) := by decide +kernel
theorem dX7_thickest_50 : decode cX7_thickest 50 = .ok (.istore_n 2, 1) := by decide +kernel
theorem dX7_thickest_51 : decode cX7_thickest 51 = .ok (.iload 5, 2) := by decide +kernel
theorem dX7_thickest_53 : decode cX7_thickest 53 = .ok (.iload_n 3, 1) := by decide +kernel
theorem dX7_thickest_54 : decode cX7_thickest 54 = .ok (.if_icmp .le 8, 3) := by decide +kernel
theorem dX7_thickest_57 : decode cX7_thickest 57 = .ok (.iload 5, 2) := by decide +kernel
theorem dX7_thickest_59 : decode cX7_thickest 59 = .ok (.goto 4, 3) := by decide +kernel
theorem dX7_thickest_62 : decode cX7_thickest 62 = .ok (.iload_n 3, 1) := by decide +kernel
theorem dX7_thickest_63 : decode cX7_thickest 63 = .ok (.istore_n 3, 1) := by decide +kernel
theorem dX7_thickest_64 : decode cX7_thickest 64 = .ok (.iinc 4 1, 3) := by decide +kernel
theorem dX7_thickest_67 : decode cX7_thickest 67 = .ok (.goto (-46), 3) := by decide +kernel
theorem dX7_thickest_70 : decode cX7_thickest 70 = .ok (.iload_n 2, 1) := by decide +kernel
theorem dX7_thickest_71 : decode cX7_thickest 71 = .ok (.ireturn, 1) := by decide +kernel
theorem dL_law_0 : decode cL_law 0 = .ok (.new 7, 3) := by decide +kernel
theorem dL_law_3 : decode cL_law 3 = .ok (.dup, 1) := by decide +kernel
theorem dL_law_4 : decode cL_law 4 = .ok (.invokespecial 9, 3) := by decide +kernel
theorem dL_law_7 : decode cL_law 7 = .ok (.astore_n 1, 1) := by decide +kernel
theorem dL_law_8 : decode cL_law 8 = .ok (.new 10, 3) := by decide +kernel
theorem dL_law_11 : decode cL_law 11 = .ok (.dup, 1) := by decide +kernel
theorem dL_law_12 : decode cL_law 12 = .ok (.invokespecial 12, 3) := by decide +kernel
theorem dL_law_15 : decode cL_law 15 = .ok (.astore_n 2, 1) := by decide +kernel
theorem dL_law_16 : decode cL_law 16 = .ok (.iconst 0, 1) := by decide +kernel
theorem dL_law_17 : decode cL_law 17 = .ok (.istore_n 3, 1) := by decide +kernel
theorem dL_law_18 : decode cL_law 18 = .ok (.iload_n 3, 1) := by decide +kernel
theorem dL_law_19 : decode cL_law 19 = .ok (.aload_n 0, 1) := by decide +kernel
theorem dL_law_20 : decode cL_law 20 = .ok (.arraylength, 1) := by decide +kernel
theorem dL_law_21 : decode cL_law 21 = .ok (.iconst 3, 1) := by decide +kernel
theorem dL_law_22 : decode cL_law 22 = .ok (.isub, 1) := by decide +kernel
theorem dL_law_23 : decode cL_law 23 = .ok (.if_icmp .gt 784, 3) := by decide +kernel
theorem dL_law_26 : decode cL_law 26 = .ok (.aload_n 0, 1) := by decide +kernel
theorem dL_law_27 : decode cL_law 27 = .ok (.iload_n 3, 1) := by decide +kernel
theorem dL_law_28 : decode cL_law 28 = .ok (.iaload, 1) := by decide +kernel
theorem dL_law_29 : decode cL_law 29 = .ok (.bipush 31, 2) := by decide +kernel
theorem dL_law_31 : decode cL_law 31 = .ok (.iand, 1) := by decide +kernel
theorem dL_law_32 : decode cL_law 32 = .ok (.tableswitch 769 0 26 #[124, 147, 170, 193, 206, 239, 272, 295, 308, 341, 380, 403, 426, 451, 464, 477, 490, 503, 516, 539, 572, 595, 618, 651, 700, 733, 746], 124) := by decide +kernel
theorem dL_law_156 : decode cL_law 156 = .ok (.aload_n 1, 1) := by decide +kernel
theorem dL_law_157 : decode cL_law 157 = .ok (.aload_n 0, 1) := by decide +kernel
theorem dL_law_158 : decode cL_law 158 = .ok (.iload_n 3, 1) := by decide +kernel
theorem dL_law_159 : decode cL_law 159 = .ok (.iconst 1, 1) := by decide +kernel
theorem dL_law_160 : decode cL_law 160 = .ok (.iadd, 1) := by decide +kernel
theorem dL_law_161 : decode cL_law 161 = .ok (.iaload, 1) := by decide +kernel
theorem dL_law_162 : decode cL_law 162 = .ok (.invokevirtual 13, 3) := by decide +kernel
theorem dL_law_165 : decode cL_law 165 = .ok (.aload_n 2, 1) := by decide +kernel
theorem dL_law_166 : decode cL_law 166 = .ok (.aload_n 0, 1) := by decide +kernel
theorem dL_law_167 : decode cL_law 167 = .ok (.iload_n 3, 1) := by decide +kernel
theorem dL_law_168 : decode cL_law 168 = .ok (.iconst 1, 1) := by decide +kernel
theorem dL_law_169 : decode cL_law 169 = .ok (.iadd, 1) := by decide +kernel
theorem dL_law_170 : decode cL_law 170 = .ok (.iaload, 1) := by decide +kernel
theorem dL_law_171 : decode cL_law 171 = .ok (.invokevirtual 17, 3) := by decide +kernel
theorem dL_law_174 : decode cL_law 174 = .ok (.if_icmp .eq 627, 3) := by decide +kernel
theorem dL_law_177 : decode cL_law 177 = .ok (.iconst 0, 1) := by decide +kernel
theorem dL_law_178 : decode cL_law 178 = .ok (.ireturn, 1) := by decide +kernel
theorem dL_law_179 : decode cL_law 179 = .ok (.aload_n 1, 1) := by decide +kernel
theorem dL_law_180 : decode cL_law 180 = .ok (.aload_n 0, 1) := by decide +kernel
theorem dL_law_181 : decode cL_law 181 = .ok (.iload_n 3, 1) := by decide +kernel
theorem dL_law_182 : decode cL_law 182 = .ok (.iconst 1, 1) := by decide +kernel
theorem dL_law_183 : decode cL_law 183 = .ok (.iadd, 1) := by decide +kernel
theorem dL_law_184 : decode cL_law 184 = .ok (.iaload, 1) := by decide +kernel
theorem dL_law_185 : decode cL_law 185 = .ok (.invokevirtual 18, 3) := by decide +kernel
theorem dL_law_188 : decode cL_law 188 = .ok (.aload_n 2, 1) := by decide +kernel
theorem dL_law_189 : decode cL_law 189 = .ok (.aload_n 0, 1) := by decide +kernel
theorem dL_law_190 : decode cL_law 190 = .ok (.iload_n 3, 1) := by decide +kernel
theorem dL_law_191 : decode cL_law 191 = .ok (.iconst 1, 1) := by decide +kernel
theorem dL_law_192 : decode cL_law 192 = .ok (.iadd, 1) := by decide +kernel
theorem dL_law_193 : decode cL_law 193 = .ok (.iaload, 1) := by decide +kernel
theorem dL_law_194 : decode cL_law 194 = .ok (.invokevirtual 21, 3) := by decide +kernel
theorem dL_law_197 : decode cL_law 197 = .ok (.if_icmp .eq 604, 3) := by decide +kernel
theorem dL_law_200 : decode cL_law 200 = .ok (.iconst 0, 1) := by decide +kernel
theorem dL_law_201 : decode cL_law 201 = .ok (.ireturn, 1) := by decide +kernel
theorem dL_law_202 : decode cL_law 202 = .ok (.aload_n 1, 1) := by decide +kernel
theorem dL_law_203 : decode cL_law 203 = .ok (.aload_n 0, 1) := by decide +kernel
theorem dL_law_204 : decode cL_law 204 = .ok (.iload_n 3, 1) := by decide +kernel
theorem dL_law_205 : decode cL_law 205 = .ok (.iconst 1, 1) := by decide +kernel
theorem dL_law_206 : decode cL_law 206 = .ok (.iadd, 1) := by decide +kernel
theorem dL_law_207 : decode cL_law 207 = .ok (.iaload, 1) := by decide +kernel
theorem dL_law_208 : decode cL_law 208 = .ok (.invokevirtual 22, 3) := by decide +kernel
theorem dL_law_211 : decode cL_law 211 = .ok (.aload_n 2, 1) := by decide +kernel
theorem dL_law_212 : decode cL_law 212 = .ok (.aload_n 0, 1) := by decide +kernel
theorem dL_law_213 : decode cL_law 213 = .ok (.iload_n 3, 1) := by decide +kernel
theorem dL_law_214 : decode cL_law 214 = .ok (.iconst 1, 1) := by decide +kernel
theorem dL_law_215 : decode cL_law 215 = .ok (.iadd, 1) := by decide +kernel
theorem dL_law_216 : decode cL_law 216 = .ok (.iaload, 1) := by decide +kernel
theorem dL_law_217 : decode cL_law 217 = .ok (.invokevirtual 25, 3) := by decide +kernel
theorem dL_law_220 : decode cL_law 220 = .ok (.if_icmp .eq 581, 3) := by decide +kernel
theorem dL_law_223 : decode cL_law 223 = .ok (.iconst 0, 1) := by decide +kernel
theorem dL_law_224 : decode cL_law 224 = .ok (.ireturn, 1) := by decide +kernel
theorem dL_law_225 : decode cL_law 225 = .ok (.aload_n 1, 1) := by decide +kernel
theorem dL_law_226 : decode cL_law 226 = .ok (.invokevirtual 26, 3) := by decide +kernel
theorem dL_law_229 : decode cL_law 229 = .ok (.aload_n 2, 1) := by decide +kernel
theorem dL_law_230 : decode cL_law 230 = .ok (.invokevirtual 30, 3) := by decide +kernel
theorem dL_law_233 : decode cL_law 233 = .ok (.if_icmp .eq 568, 3) := by decide +kernel
theorem dL_law_236 : decode cL_law 236 = .ok (.iconst 0, 1) := by decide +kernel
theorem dL_law_237 : decode cL_law 237 = .ok (.ireturn, 1) := by decide +kernel
theorem dL_law_238 : decode cL_law 238 = .ok (.aload_n 1, 1) := by decide +kernel
theorem dL_law_239 : decode cL_law 239 = .ok (.aload_n 0, 1) := by decide +kernel
theorem dL_law_240 : decode cL_law 240 = .ok (.iload_n 3, 1) := by decide +kernel
theorem dL_law_241 : decode cL_law 241 = .ok (.iconst 1, 1) := by decide +kernel
theorem dL_law_242 : decode cL_law 242 = .ok (.iadd, 1) := by decide +kernel
theorem dL_law_243 : decode cL_law 243 = .ok (.iaload, 1) := by decide +kernel
theorem dL_law_244 : decode cL_law 244 = .ok (.aload_n 0, 1) := by decide +kernel
theorem dL_law_245 : decode cL_law 245 = .ok (.iload_n 3, 1) := by decide +kernel
theorem dL_law_246 : decode cL_law 246 = .ok (.iconst 2, 1) := by decide +kernel
theorem dL_law_247 : decode cL_law 247 = .ok (.iadd, 1) := by decide +kernel
theorem dL_law_248 : decode cL_law 248 = .ok (.iaload, 1) := by decide +kernel
theorem dL_law_249 : decode cL_law 249 = .ok (.invokevirtual 31, 3) := by decide +kernel
theorem dL_law_252 : decode cL_law 252 = .ok (.aload_n 2, 1) := by decide +kernel
theorem dL_law_253 : decode cL_law 253 = .ok (.aload_n 0, 1) := by decide +kernel
theorem dL_law_254 : decode cL_law 254 = .ok (.iload_n 3, 1) := by decide +kernel
theorem dL_law_255 : decode cL_law 255 = .ok (.iconst 1, 1) := by decide +kernel
theorem dL_law_256 : decode cL_law 256 = .ok (.iadd, 1) := by decide +kernel
theorem dL_law_257 : decode cL_law 257 = .ok (.iaload, 1) := by decide +kernel
theorem dL_law_258 : decode cL_law 258 = .ok (.aload_n 0, 1) := by decide +kernel
theorem dL_law_259 : decode cL_law 259 = .ok (.iload_n 3, 1) := by decide +kernel
theorem dL_law_260 : decode cL_law 260 = .ok (.iconst 2, 1) := by decide +kernel
theorem dL_law_261 : decode cL_law 261 = .ok (.iadd, 1) := by decide +kernel
theorem dL_law_262 : decode cL_law 262 = .ok (.iaload, 1) := by decide +kernel
theorem dL_law_263 : decode cL_law 263 = .ok (.invokevirtual 35, 3) := by decide +kernel
theorem dL_law_266 : decode cL_law 266 = .ok (.if_icmp .eq 535, 3) := by decide +kernel
theorem dL_law_269 : decode cL_law 269 = .ok (.iconst 0, 1) := by decide +kernel
theorem dL_law_270 : decode cL_law 270 = .ok (.ireturn, 1) := by decide +kernel
theorem dL_law_271 : decode cL_law 271 = .ok (.aload_n 1, 1) := by decide +kernel
theorem dL_law_272 : decode cL_law 272 = .ok (.aload_n 0, 1) := by decide +kernel
theorem dL_law_273 : decode cL_law 273 = .ok (.iload_n 3, 1) := by decide +kernel
theorem dL_law_274 : decode cL_law 274 = .ok (.iconst 1, 1) := by decide +kernel
theorem dL_law_275 : decode cL_law 275 = .ok (.iadd, 1) := by decide +kernel
theorem dL_law_276 : decode cL_law 276 = .ok (.iaload, 1) := by decide +kernel
theorem dL_law_277 : decode cL_law 277 = .ok (.aload_n 0, 1) := by decide +kernel
theorem dL_law_278 : decode cL_law 278 = .ok (.iload_n 3, 1) := by decide +kernel
theorem dL_law_279 : decode cL_law 279 = .ok (.iconst 2, 1) := by decide +kernel
theorem dL_law_280 : decode cL_law 280 = .ok (.iadd, 1) := by decide +kernel
theorem dL_law_281 : decode cL_law 281 = .ok (.iaload, 1) := by decide +kernel
theorem dL_law_282 : decode cL_law 282 = .ok (.invokevirtual 36, 3) := by decide +kernel
theorem dL_law_285 : decode cL_law 285 = .ok (.aload_n 2, 1) := by decide +kernel
theorem dL_law_286 : decode cL_law 286 = .ok (.aload_n 0, 1) := by decide +kernel
theorem dL_law_287 : decode cL_law 287 = .ok (.iload_n 3, 1) := by decide +kernel
theorem dL_law_288 : decode cL_law 288 = .ok (.iconst 1, 1) := by decide +kernel
theorem dL_law_289 : decode cL_law 289 = .ok (.iadd, 1) := by decide +kernel
theorem dL_law_290 : decode cL_law 290 = .ok (.iaload, 1) := by decide +kernel
theorem dL_law_291 : decode cL_law 291 = .ok (.aload_n 0, 1) := by decide +kernel
theorem dL_law_292 : decode cL_law 292 = .ok (.iload_n 3, 1) := by decide +kernel
theorem dL_law_293 : decode cL_law 293 = .ok (.iconst 2, 1) := by decide +kernel
theorem dL_law_294 : decode cL_law 294 = .ok (.iadd, 1) := by decide +kernel
theorem dL_law_295 : decode cL_law 295 = .ok (.iaload, 1) := by decide +kernel
theorem dL_law_296 : decode cL_law 296 = .ok (.invokevirtual 39, 3) := by decide +kernel
theorem dL_law_299 : decode cL_law 299 = .ok (.if_icmp .eq 502, 3) := by decide +kernel
theorem dL_law_302 : decode cL_law 302 = .ok (.iconst 0, 1) := by decide +kernel
theorem dL_law_303 : decode cL_law 303 = .ok (.ireturn, 1) := by decide +kernel
theorem dL_law_304 : decode cL_law 304 = .ok (.aload_n 1, 1) := by decide +kernel
theorem dL_law_305 : decode cL_law 305 = .ok (.aload_n 0, 1) := by decide +kernel
theorem dL_law_306 : decode cL_law 306 = .ok (.iload_n 3, 1) := by decide +kernel
theorem dL_law_307 : decode cL_law 307 = .ok (.iconst 1, 1) := by decide +kernel
theorem dL_law_308 : decode cL_law 308 = .ok (.iadd, 1) := by decide +kernel
theorem dL_law_309 : decode cL_law 309 = .ok (.iaload, 1) := by decide +kernel
theorem dL_law_310 : decode cL_law 310 = .ok (.invokevirtual 40, 3) := by decide +kernel
theorem dL_law_313 : decode cL_law 313 = .ok (.aload_n 2, 1) := by decide +kernel
theorem dL_law_314 : decode cL_law 314 = .ok (.aload_n 0, 1) := by decide +kernel
theorem dL_law_315 : decode cL_law 315 = .ok (.iload_n 3, 1) := by decide +kernel
theorem dL_law_316 : decode cL_law 316 = .ok (.iconst 1, 1) := by decide +kernel
theorem dL_law_317 : decode cL_law 317 = .ok (.iadd, 1) := by decide +kernel
theorem dL_law_318 : decode cL_law 318 = .ok (.iaload, 1) := by decide +kernel
theorem dL_law_319 : decode cL_law 319 = .ok (.invokevirtual 43, 3) := by decide +kernel
theorem dL_law_322 : decode cL_law 322 = .ok (.if_icmp .eq 479, 3) := by decide +kernel
theorem dL_law_325 : decode cL_law 325 = .ok (.iconst 0, 1) := by decide +kernel
theorem dL_law_326 : decode cL_law 326 = .ok (.ireturn, 1) := by decide +kernel
theorem dL_law_327 : decode cL_law 327 = .ok (.aload_n 1, 1) := by decide +kernel
theorem dL_law_328 : decode cL_law 328 = .ok (.invokevirtual 44, 3) := by decide +kernel
theorem dL_law_331 : decode cL_law 331 = .ok (.aload_n 2, 1) := by decide +kernel
theorem dL_law_332 : decode cL_law 332 = .ok (.invokevirtual 47, 3) := by decide +kernel
theorem dL_law_335 : decode cL_law 335 = .ok (.if_icmp .eq 466, 3) := by decide +kernel
theorem dL_law_338 : decode cL_law 338 = .ok (.iconst 0, 1) := by decide +kernel
theorem dL_law_339 : decode cL_law 339 = .ok (.ireturn, 1) := by decide +kernel
theorem dL_law_340 : decode cL_law 340 = .ok (.aload_n 1, 1) := by decide +kernel
theorem dL_law_341 : decode cL_law 341 = .ok (.aload_n 0, 1) := by decide +kernel
theorem dL_law_342 : decode cL_law 342 = .ok (.iload_n 3, 1) := by decide +kernel
theorem dL_law_343 : decode cL_law 343 = .ok (.iconst 1, 1) := by decide +kernel
theorem dL_law_344 : decode cL_law 344 = .ok (.iadd, 1) := by decide +kernel
theorem dL_law_345 : decode cL_law 345 = .ok (.iaload, 1) := by decide +kernel
theorem dL_law_346 : decode cL_law 346 = .ok (.aload_n 0, 1) := by decide +kernel
theorem dL_law_347 : decode cL_law 347 = .ok (.iload_n 3, 1) := by decide +kernel
theorem dL_law_348 : decode cL_law 348 = .ok (.iconst 2, 1) := by decide +kernel
theorem dL_law_349 : decode cL_law 349 = .ok (.iadd, 1) := by decide +kernel
theorem dL_law_350 : decode cL_law 350 = .ok (.iaload, 1) := by decide +kernel
theorem dL_law_351 : decode cL_law 351 = .ok (.invokevirtual 48, 3) := by decide +kernel
theorem dL_law_354 : decode cL_law 354 = .ok (.aload_n 2, 1) := by decide +kernel
theorem dL_law_355 : decode cL_law 355 = .ok (.aload_n 0, 1) := by decide +kernel
theorem dL_law_356 : decode cL_law 356 = .ok (.iload_n 3, 1) := by decide +kernel
theorem dL_law_357 : decode cL_law 357 = .ok (.iconst 1, 1) := by decide +kernel
theorem dL_law_358 : decode cL_law 358 = .ok (.iadd, 1) := by decide +kernel
theorem dL_law_359 : decode cL_law 359 = .ok (.iaload, 1) := by decide +kernel
theorem dL_law_360 : decode cL_law 360 = .ok (.aload_n 0, 1) := by decide +kernel
theorem dL_law_361 : decode cL_law 361 = .ok (.iload_n 3, 1) := by decide +kernel
theorem dL_law_362 : decode cL_law 362 = .ok (.iconst 2, 1) := by decide +kernel
theorem dL_law_363 : decode cL_law 363 = .ok (.iadd, 1) := by decide +kernel
theorem dL_law_364 : decode cL_law 364 = .ok (.iaload, 1) := by decide +kernel
theorem dL_law_365 : decode cL_law 365 = .ok (.invokevirtual 51, 3) := by decide +kernel
theorem dL_law_368 : decode cL_law 368 = .ok (.if_icmp .eq 433, 3) := by decide +kernel
theorem dL_law_371 : decode cL_law 371 = .ok (.iconst 0, 1) := by decide +kernel
theorem dL_law_372 : decode cL_law 372 = .ok (.ireturn, 1) := by decide +kernel
theorem dL_law_373 : decode cL_law 373 = .ok (.aload_n 1, 1) := by decide +kernel
theorem dL_law_374 : decode cL_law 374 = .ok (.aload_n 0, 1) := by decide +kernel
theorem dL_law_375 : decode cL_law 375 = .ok (.iload_n 3, 1) := by decide +kernel
theorem dL_law_376 : decode cL_law 376 = .ok (.iconst 1, 1) := by decide +kernel
theorem dL_law_377 : decode cL_law 377 = .ok (.iadd, 1) := by decide +kernel
theorem dL_law_378 : decode cL_law 378 = .ok (.iaload, 1) := by decide +kernel
theorem dL_law_379 : decode cL_law 379 = .ok (.ifCond .eq 7, 3) := by decide +kernel
theorem dL_law_382 : decode cL_law 382 = .ok (.iconst 1, 1) := by decide +kernel
theorem dL_law_383 : decode cL_law 383 = .ok (.goto 4, 3) := by decide +kernel
theorem dL_law_386 : decode cL_law 386 = .ok (.iconst 0, 1) := by decide +kernel
theorem dL_law_387 : decode cL_law 387 = .ok (.invokevirtual 52, 3) := by decide +kernel
theorem dL_law_390 : decode cL_law 390 = .ok (.aload_n 2, 1) := by decide +kernel
theorem dL_law_391 : decode cL_law 391 = .ok (.aload_n 0, 1) := by decide +kernel
theorem dL_law_392 : decode cL_law 392 = .ok (.iload_n 3, 1) := by decide +kernel
theorem dL_law_393 : decode cL_law 393 = .ok (.iconst 1, 1) := by decide +kernel
theorem dL_law_394 : decode cL_law 394 = .ok (.iadd, 1) := by decide +kernel
theorem dL_law_395 : decode cL_law 395 = .ok (.iaload, 1) := by decide +kernel
theorem dL_law_396 : decode cL_law 396 = .ok (.ifCond .eq 7, 3) := by decide +kernel
theorem dL_law_399 : decode cL_law 399 = .ok (.iconst 1, 1) := by decide +kernel
theorem dL_law_400 : decode cL_law 400 = .ok (.goto 4, 3) := by decide +kernel
theorem dL_law_403 : decode cL_law 403 = .ok (.iconst 0, 1) := by decide +kernel
theorem dL_law_404 : decode cL_law 404 = .ok (.invokevirtual 56, 3) := by decide +kernel
theorem dL_law_407 : decode cL_law 407 = .ok (.if_icmp .eq 394, 3) := by decide +kernel
theorem dL_law_410 : decode cL_law 410 = .ok (.iconst 0, 1) := by decide +kernel
theorem dL_law_411 : decode cL_law 411 = .ok (.ireturn, 1) := by decide +kernel
theorem dL_law_412 : decode cL_law 412 = .ok (.aload_n 1, 1) := by decide +kernel
theorem dL_law_413 : decode cL_law 413 = .ok (.aload_n 0, 1) := by decide +kernel
theorem dL_law_414 : decode cL_law 414 = .ok (.iload_n 3, 1) := by decide +kernel
theorem dL_law_415 : decode cL_law 415 = .ok (.iconst 1, 1) := by decide +kernel
theorem dL_law_416 : decode cL_law 416 = .ok (.iadd, 1) := by decide +kernel
theorem dL_law_417 : decode cL_law 417 = .ok (.iaload, 1) := by decide +kernel
theorem dL_law_418 : decode cL_law 418 = .ok (.invokevirtual 57, 3) := by decide +kernel
theorem dL_law_421 : decode cL_law 421 = .ok (.aload_n 2, 1) := by decide +kernel
theorem dL_law_422 : decode cL_law 422 = .ok (.aload_n 0, 1) := by decide +kernel
theorem dL_law_423 : decode cL_law 423 = .ok (.iload_n 3, 1) := by decide +kernel
theorem dL_law_424 : decode cL_law 424 = .ok (.iconst 1, 1) := by decide +kernel
theorem dL_law_425 : decode cL_law 425 = .ok (.iadd, 1) := by decide +kernel
theorem dL_law_426 : decode cL_law 426 = .ok (.iaload, 1) := by decide +kernel
theorem dL_law_427 : decode cL_law 427 = .ok (.invokevirtual 60, 3) := by decide +kernel
theorem dL_law_430 : decode cL_law 430 = .ok (.if_icmp .eq 371, 3) := by decide +kernel
theorem dL_law_433 : decode cL_law 433 = .ok (.iconst 0, 1) := by decide +kernel
theorem dL_law_434 : decode cL_law 434 = .ok (.ireturn, 1) := by decide +kernel
theorem dL_law_435 : decode cL_law 435 = .ok (.aload_n 1, 1) := by decide +kernel
theorem dL_law_436 : decode cL_law 436 = .ok (.aload_n 0, 1) := by decide +kernel
theorem dL_law_437 : decode cL_law 437 = .ok (.iload_n 3, 1) := by decide +kernel
theorem dL_law_438 : decode cL_law 438 = .ok (.iconst 1, 1) := by decide +kernel
theorem dL_law_439 : decode cL_law 439 = .ok (.iadd, 1) := by decide +kernel
theorem dL_law_440 : decode cL_law 440 = .ok (.iaload, 1) := by decide +kernel
theorem dL_law_441 : decode cL_law 441 = .ok (.invokevirtual 61, 3) := by decide +kernel
theorem dL_law_444 : decode cL_law 444 = .ok (.aload_n 2, 1) := by decide +kernel
theorem dL_law_445 : decode cL_law 445 = .ok (.aload_n 0, 1) := by decide +kernel
theorem dL_law_446 : decode cL_law 446 = .ok (.iload_n 3, 1) := by decide +kernel
theorem dL_law_447 : decode cL_law 447 = .ok (.iconst 1, 1) := by decide +kernel
theorem dL_law_448 : decode cL_law 448 = .ok (.iadd, 1) := by decide +kernel
theorem dL_law_449 : decode cL_law 449 = .ok (.iaload, 1) := by decide +kernel
theorem dL_law_450 : decode cL_law 450 = .ok (.invokevirtual 64, 3) := by decide +kernel
theorem dL_law_453 : decode cL_law 453 = .ok (.if_icmp .eq 348, 3) := by decide +kernel
theorem dL_law_456 : decode cL_law 456 = .ok (.iconst 0, 1) := by decide +kernel
theorem dL_law_457 : decode cL_law 457 = .ok (.ireturn, 1) := by decide +kernel
theorem dL_law_458 : decode cL_law 458 = .ok (.aload_n 1, 1) := by decide +kernel
theorem dL_law_459 : decode cL_law 459 = .ok (.aload_n 0, 1) := by decide +kernel
theorem dL_law_460 : decode cL_law 460 = .ok (.iload_n 3, 1) := by decide +kernel
theorem dL_law_461 : decode cL_law 461 = .ok (.iconst 1, 1) := by decide +kernel
theorem dL_law_462 : decode cL_law 462 = .ok (.iadd, 1) := by decide +kernel
theorem dL_law_463 : decode cL_law 463 = .ok (.iaload, 1) := by decide +kernel
theorem dL_law_464 : decode cL_law 464 = .ok (.i2c, 1) := by decide +kernel
theorem dL_law_465 : decode cL_law 465 = .ok (.invokevirtual 65, 3) := by decide +kernel
theorem dL_law_468 : decode cL_law 468 = .ok (.aload_n 2, 1) := by decide +kernel
theorem dL_law_469 : decode cL_law 469 = .ok (.aload_n 0, 1) := by decide +kernel
theorem dL_law_470 : decode cL_law 470 = .ok (.iload_n 3, 1) := by decide +kernel
theorem dL_law_471 : decode cL_law 471 = .ok (.iconst 1, 1) := by decide +kernel
theorem dL_law_472 : decode cL_law 472 = .ok (.iadd, 1) := by decide +kernel
theorem dL_law_473 : decode cL_law 473 = .ok (.iaload, 1) := by decide +kernel
theorem dL_law_474 : decode cL_law 474 = .ok (.i2c, 1) := by decide +kernel
theorem dL_law_475 : decode cL_law 475 = .ok (.invokevirtual 69, 3) := by decide +kernel
theorem dL_law_478 : decode cL_law 478 = .ok (.if_icmp .eq 323, 3) := by decide +kernel
theorem dL_law_481 : decode cL_law 481 = .ok (.iconst 0, 1) := by decide +kernel
theorem dL_law_482 : decode cL_law 482 = .ok (.ireturn, 1) := by decide +kernel
theorem dL_law_483 : decode cL_law 483 = .ok (.aload_n 1, 1) := by decide +kernel
theorem dL_law_484 : decode cL_law 484 = .ok (.invokevirtual 70, 3) := by decide +kernel
theorem dL_law_487 : decode cL_law 487 = .ok (.aload_n 2, 1) := by decide +kernel
theorem dL_law_488 : decode cL_law 488 = .ok (.invokevirtual 73, 3) := by decide +kernel
theorem dL_law_491 : decode cL_law 491 = .ok (.if_icmp .eq 310, 3) := by decide +kernel
theorem dL_law_494 : decode cL_law 494 = .ok (.iconst 0, 1) := by decide +kernel
theorem dL_law_495 : decode cL_law 495 = .ok (.ireturn, 1) := by decide +kernel
theorem dL_law_496 : decode cL_law 496 = .ok (.aload_n 1, 1) := by decide +kernel
theorem dL_law_497 : decode cL_law 497 = .ok (.invokevirtual 74, 3) := by decide +kernel
theorem dL_law_500 : decode cL_law 500 = .ok (.aload_n 2, 1) := by decide +kernel
theorem dL_law_501 : decode cL_law 501 = .ok (.invokevirtual 77, 3) := by decide +kernel
theorem dL_law_504 : decode cL_law 504 = .ok (.if_icmp .eq 297, 3) := by decide +kernel
theorem dL_law_507 : decode cL_law 507 = .ok (.iconst 0, 1) := by decide +kernel
theorem dL_law_508 : decode cL_law 508 = .ok (.ireturn, 1) := by decide +kernel
theorem dL_law_509 : decode cL_law 509 = .ok (.aload_n 1, 1) := by decide +kernel
theorem dL_law_510 : decode cL_law 510 = .ok (.invokevirtual 78, 3) := by decide +kernel
theorem dL_law_513 : decode cL_law 513 = .ok (.aload_n 2, 1) := by decide +kernel
theorem dL_law_514 : decode cL_law 514 = .ok (.invokevirtual 81, 3) := by decide +kernel
theorem dL_law_517 : decode cL_law 517 = .ok (.if_icmp .eq 284, 3) := by decide +kernel
theorem dL_law_520 : decode cL_law 520 = .ok (.iconst 0, 1) := by decide +kernel
theorem dL_law_521 : decode cL_law 521 = .ok (.ireturn, 1) := by decide +kernel
theorem dL_law_522 : decode cL_law 522 = .ok (.aload_n 1, 1) := by decide +kernel
theorem dL_law_523 : decode cL_law 523 = .ok (.invokevirtual 82, 3) := by decide +kernel
theorem dL_law_526 : decode cL_law 526 = .ok (.aload_n 2, 1) := by decide +kernel
theorem dL_law_527 : decode cL_law 527 = .ok (.invokevirtual 85, 3) := by decide +kernel
theorem dL_law_530 : decode cL_law 530 = .ok (.if_icmp .eq 271, 3) := by decide +kernel
theorem dL_law_533 : decode cL_law 533 = .ok (.iconst 0, 1) := by decide +kernel
theorem dL_law_534 : decode cL_law 534 = .ok (.ireturn, 1) := by decide +kernel
theorem dL_law_535 : decode cL_law 535 = .ok (.aload_n 1, 1) := by decide +kernel
theorem dL_law_536 : decode cL_law 536 = .ok (.invokevirtual 86, 3) := by decide +kernel
theorem dL_law_539 : decode cL_law 539 = .ok (.aload_n 2, 1) := by decide +kernel
theorem dL_law_540 : decode cL_law 540 = .ok (.invokevirtual 89, 3) := by decide +kernel
theorem dL_law_543 : decode cL_law 543 = .ok (.if_icmp .eq 258, 3) := by decide +kernel
theorem dL_law_546 : decode cL_law 546 = .ok (.iconst 0, 1) := by decide +kernel
theorem dL_law_547 : decode cL_law 547 = .ok (.ireturn, 1) := by decide +kernel
theorem dL_law_548 : decode cL_law 548 = .ok (.aload_n 1, 1) := by decide +kernel
theorem dL_law_549 : decode cL_law 549 = .ok (.aload_n 0, 1) := by decide +kernel
theorem dL_law_550 : decode cL_law 550 = .ok (.iload_n 3, 1) := by decide +kernel
theorem dL_law_551 : decode cL_law 551 = .ok (.iconst 1, 1) := by decide +kernel
theorem dL_law_552 : decode cL_law 552 = .ok (.iadd, 1) := by decide +kernel
theorem dL_law_553 : decode cL_law 553 = .ok (.iaload, 1) := by decide +kernel
theorem dL_law_554 : decode cL_law 554 = .ok (.invokevirtual 90, 3) := by decide +kernel
theorem dL_law_557 : decode cL_law 557 = .ok (.aload_n 2, 1) := by decide +kernel
theorem dL_law_558 : decode cL_law 558 = .ok (.aload_n 0, 1) := by decide +kernel
theorem dL_law_559 : decode cL_law 559 = .ok (.iload_n 3, 1) := by decide +kernel
theorem dL_law_560 : decode cL_law 560 = .ok (.iconst 1, 1) := by decide +kernel
theorem dL_law_561 : decode cL_law 561 = .ok (.iadd, 1) := by decide +kernel
theorem dL_law_562 : decode cL_law 562 = .ok (.iaload, 1) := by decide +kernel
theorem dL_law_563 : decode cL_law 563 = .ok (.invokevirtual 93, 3) := by decide +kernel
theorem dL_law_566 : decode cL_law 566 = .ok (.if_icmp .eq 235, 3) := by decide +kernel
theorem dL_law_569 : decode cL_law 569 = .ok (.iconst 0, 1) := by decide +kernel
theorem dL_law_570 : decode cL_law 570 = .ok (.ireturn, 1) := by decide +kernel
theorem dL_law_571 : decode cL_law 571 = .ok (.aload_n 1, 1) := by decide +kernel
theorem dL_law_572 : decode cL_law 572 = .ok (.aload_n 0, 1) := by decide +kernel
theorem dL_law_573 : decode cL_law 573 = .ok (.iload_n 3, 1) := by decide +kernel
theorem dL_law_574 : decode cL_law 574 = .ok (.iconst 1, 1) := by decide +kernel
theorem dL_law_575 : decode cL_law 575 = .ok (.iadd, 1) := by decide +kernel
theorem dL_law_576 : decode cL_law 576 = .ok (.iaload, 1) := by decide +kernel
theorem dL_law_577 : decode cL_law 577 = .ok (.aload_n 0, 1) := by decide +kernel
theorem dL_law_578 : decode cL_law 578 = .ok (.iload_n 3, 1) := by decide +kernel
theorem dL_law_579 : decode cL_law 579 = .ok (.iconst 2, 1) := by decide +kernel
theorem dL_law_580 : decode cL_law 580 = .ok (.iadd, 1) := by decide +kernel
theorem dL_law_581 : decode cL_law 581 = .ok (.iaload, 1) := by decide +kernel
theorem dL_law_582 : decode cL_law 582 = .ok (.invokevirtual 94, 3) := by decide +kernel
theorem dL_law_585 : decode cL_law 585 = .ok (.aload_n 2, 1) := by decide +kernel
theorem dL_law_586 : decode cL_law 586 = .ok (.aload_n 0, 1) := by decide +kernel
theorem dL_law_587 : decode cL_law 587 = .ok (.iload_n 3, 1) := by decide +kernel
theorem dL_law_588 : decode cL_law 588 = .ok (.iconst 1, 1) := by decide +kernel
theorem dL_law_589 : decode cL_law 589 = .ok (.iadd, 1) := by decide +kernel
theorem dL_law_590 : decode cL_law 590 = .ok (.iaload, 1) := by decide +kernel
theorem dL_law_591 : decode cL_law 591 = .ok (.aload_n 0, 1) := by decide +kernel
theorem dL_law_592 : decode cL_law 592 = .ok (.iload_n 3, 1) := by decide +kernel
theorem dL_law_593 : decode cL_law 593 = .ok (.iconst 2, 1) := by decide +kernel
theorem dL_law_594 : decode cL_law 594 = .ok (.iadd, 1) := by decide +kernel
theorem dL_law_595 : decode cL_law 595 = .ok (.iaload, 1) := by decide +kernel
theorem dL_law_596 : decode cL_law 596 = .ok (.invokevirtual 97, 3) := by decide +kernel
theorem dL_law_599 : decode cL_law 599 = .ok (.if_icmp .eq 202, 3) := by decide +kernel
theorem dL_law_602 : decode cL_law 602 = .ok (.iconst 0, 1) := by decide +kernel
theorem dL_law_603 : decode cL_law 603 = .ok (.ireturn, 1) := by decide +kernel
theorem dL_law_604 : decode cL_law 604 = .ok (.aload_n 1, 1) := by decide +kernel
theorem dL_law_605 : decode cL_law 605 = .ok (.aload_n 0, 1) := by decide +kernel
theorem dL_law_606 : decode cL_law 606 = .ok (.iload_n 3, 1) := by decide +kernel
theorem dL_law_607 : decode cL_law 607 = .ok (.iconst 1, 1) := by decide +kernel
theorem dL_law_608 : decode cL_law 608 = .ok (.iadd, 1) := by decide +kernel
theorem dL_law_609 : decode cL_law 609 = .ok (.iaload, 1) := by decide +kernel
theorem dL_law_610 : decode cL_law 610 = .ok (.invokevirtual 98, 3) := by decide +kernel
theorem dL_law_613 : decode cL_law 613 = .ok (.aload_n 2, 1) := by decide +kernel
theorem dL_law_614 : decode cL_law 614 = .ok (.aload_n 0, 1) := by decide +kernel
theorem dL_law_615 : decode cL_law 615 = .ok (.iload_n 3, 1) := by decide +kernel
theorem dL_law_616 : decode cL_law 616 = .ok (.iconst 1, 1) := by decide +kernel
theorem dL_law_617 : decode cL_law 617 = .ok (.iadd, 1) := by decide +kernel
theorem dL_law_618 : decode cL_law 618 = .ok (.iaload, 1) := by decide +kernel
theorem dL_law_619 : decode cL_law 619 = .ok (.invokevirtual 101, 3) := by decide +kernel
theorem dL_law_622 : decode cL_law 622 = .ok (.if_icmp .eq 179, 3) := by decide +kernel
theorem dL_law_625 : decode cL_law 625 = .ok (.iconst 0, 1) := by decide +kernel
theorem dL_law_626 : decode cL_law 626 = .ok (.ireturn, 1) := by decide +kernel
theorem dL_law_627 : decode cL_law 627 = .ok (.aload_n 1, 1) := by decide +kernel
theorem dL_law_628 : decode cL_law 628 = .ok (.aload_n 0, 1) := by decide +kernel
theorem dL_law_629 : decode cL_law 629 = .ok (.iload_n 3, 1) := by decide +kernel
theorem dL_law_630 : decode cL_law 630 = .ok (.iconst 1, 1) := by decide +kernel
theorem dL_law_631 : decode cL_law 631 = .ok (.iadd, 1) := by decide +kernel
theorem dL_law_632 : decode cL_law 632 = .ok (.iaload, 1) := by decide +kernel
theorem dL_law_633 : decode cL_law 633 = .ok (.invokevirtual 102, 3) := by decide +kernel
theorem dL_law_636 : decode cL_law 636 = .ok (.aload_n 2, 1) := by decide +kernel
theorem dL_law_637 : decode cL_law 637 = .ok (.aload_n 0, 1) := by decide +kernel
theorem dL_law_638 : decode cL_law 638 = .ok (.iload_n 3, 1) := by decide +kernel
theorem dL_law_639 : decode cL_law 639 = .ok (.iconst 1, 1) := by decide +kernel
theorem dL_law_640 : decode cL_law 640 = .ok (.iadd, 1) := by decide +kernel
theorem dL_law_641 : decode cL_law 641 = .ok (.iaload, 1) := by decide +kernel
theorem dL_law_642 : decode cL_law 642 = .ok (.invokevirtual 105, 3) := by decide +kernel
theorem dL_law_645 : decode cL_law 645 = .ok (.if_icmp .eq 156, 3) := by decide +kernel
theorem dL_law_648 : decode cL_law 648 = .ok (.iconst 0, 1) := by decide +kernel
theorem dL_law_649 : decode cL_law 649 = .ok (.ireturn, 1) := by decide +kernel
theorem dL_law_650 : decode cL_law 650 = .ok (.aload_n 1, 1) := by decide +kernel
theorem dL_law_651 : decode cL_law 651 = .ok (.aload_n 0, 1) := by decide +kernel
theorem dL_law_652 : decode cL_law 652 = .ok (.iload_n 3, 1) := by decide +kernel
theorem dL_law_653 : decode cL_law 653 = .ok (.iconst 1, 1) := by decide +kernel
theorem dL_law_654 : decode cL_law 654 = .ok (.iadd, 1) := by decide +kernel
theorem dL_law_655 : decode cL_law 655 = .ok (.iaload, 1) := by decide +kernel
theorem dL_law_656 : decode cL_law 656 = .ok (.aload_n 0, 1) := by decide +kernel
theorem dL_law_657 : decode cL_law 657 = .ok (.iload_n 3, 1) := by decide +kernel
theorem dL_law_658 : decode cL_law 658 = .ok (.iconst 2, 1) := by decide +kernel
theorem dL_law_659 : decode cL_law 659 = .ok (.iadd, 1) := by decide +kernel
theorem dL_law_660 : decode cL_law 660 = .ok (.iaload, 1) := by decide +kernel
theorem dL_law_661 : decode cL_law 661 = .ok (.invokevirtual 106, 3) := by decide +kernel
theorem dL_law_664 : decode cL_law 664 = .ok (.aload_n 2, 1) := by decide +kernel
theorem dL_law_665 : decode cL_law 665 = .ok (.aload_n 0, 1) := by decide +kernel
theorem dL_law_666 : decode cL_law 666 = .ok (.iload_n 3, 1) := by decide +kernel
theorem dL_law_667 : decode cL_law 667 = .ok (.iconst 1, 1) := by decide +kernel
theorem dL_law_668 : decode cL_law 668 = .ok (.iadd, 1) := by decide +kernel
theorem dL_law_669 : decode cL_law 669 = .ok (.iaload, 1) := by decide +kernel
theorem dL_law_670 : decode cL_law 670 = .ok (.aload_n 0, 1) := by decide +kernel
theorem dL_law_671 : decode cL_law 671 = .ok (.iload_n 3, 1) := by decide +kernel
theorem dL_law_672 : decode cL_law 672 = .ok (.iconst 2, 1) := by decide +kernel
theorem dL_law_673 : decode cL_law 673 = .ok (.iadd, 1) := by decide +kernel
theorem dL_law_674 : decode cL_law 674 = .ok (.iaload, 1) := by decide +kernel
theorem dL_law_675 : decode cL_law 675 = .ok (.invokevirtual 109, 3) := by decide +kernel
theorem dL_law_678 : decode cL_law 678 = .ok (.if_icmp .eq 123, 3) := by decide +kernel
theorem dL_law_681 : decode cL_law 681 = .ok (.iconst 0, 1) := by decide +kernel
theorem dL_law_682 : decode cL_law 682 = .ok (.ireturn, 1) := by decide +kernel
theorem dL_law_683 : decode cL_law 683 = .ok (.aload_n 1, 1) := by decide +kernel
theorem dL_law_684 : decode cL_law 684 = .ok (.aload_n 0, 1) := by decide +kernel
theorem dL_law_685 : decode cL_law 685 = .ok (.iload_n 3, 1) := by decide +kernel
theorem dL_law_686 : decode cL_law 686 = .ok (.iconst 1, 1) := by decide +kernel
theorem dL_law_687 : decode cL_law 687 = .ok (.iadd, 1) := by decide +kernel
theorem dL_law_688 : decode cL_law 688 = .ok (.iaload, 1) := by decide +kernel
theorem dL_law_689 : decode cL_law 689 = .ok (.ifCond .eq 7, 3) := by decide +kernel
theorem dL_law_692 : decode cL_law 692 = .ok (.iconst 1, 1) := by decide +kernel
theorem dL_law_693 : decode cL_law 693 = .ok (.goto 4, 3) := by decide +kernel
theorem dL_law_696 : decode cL_law 696 = .ok (.iconst 0, 1) := by decide +kernel
theorem dL_law_697 : decode cL_law 697 = .ok (.aload_n 0, 1) := by decide +kernel
theorem dL_law_698 : decode cL_law 698 = .ok (.iload_n 3, 1) := by decide +kernel
theorem dL_law_699 : decode cL_law 699 = .ok (.iconst 2, 1) := by decide +kernel
theorem dL_law_700 : decode cL_law 700 = .ok (.iadd, 1) := by decide +kernel
theorem dL_law_701 : decode cL_law 701 = .ok (.iaload, 1) := by decide +kernel
theorem dL_law_702 : decode cL_law 702 = .ok (.invokevirtual 110, 3) := by decide +kernel
theorem dL_law_705 : decode cL_law 705 = .ok (.aload_n 2, 1) := by decide +kernel
theorem dL_law_706 : decode cL_law 706 = .ok (.aload_n 0, 1) := by decide +kernel
theorem dL_law_707 : decode cL_law 707 = .ok (.iload_n 3, 1) := by decide +kernel
theorem dL_law_708 : decode cL_law 708 = .ok (.iconst 1, 1) := by decide +kernel
theorem dL_law_709 : decode cL_law 709 = .ok (.iadd, 1) := by decide +kernel
theorem dL_law_710 : decode cL_law 710 = .ok (.iaload, 1) := by decide +kernel
theorem dL_law_711 : decode cL_law 711 = .ok (.ifCond .eq 7, 3) := by decide +kernel
theorem dL_law_714 : decode cL_law 714 = .ok (.iconst 1, 1) := by decide +kernel
theorem dL_law_715 : decode cL_law 715 = .ok (.goto 4, 3) := by decide +kernel
theorem dL_law_718 : decode cL_law 718 = .ok (.iconst 0, 1) := by decide +kernel
theorem dL_law_719 : decode cL_law 719 = .ok (.aload_n 0, 1) := by decide +kernel
theorem dL_law_720 : decode cL_law 720 = .ok (.iload_n 3, 1) := by decide +kernel
theorem dL_law_721 : decode cL_law 721 = .ok (.iconst 2, 1) := by decide +kernel
theorem dL_law_722 : decode cL_law 722 = .ok (.iadd, 1) := by decide +kernel
theorem dL_law_723 : decode cL_law 723 = .ok (.iaload, 1) := by decide +kernel
theorem dL_law_724 : decode cL_law 724 = .ok (.invokevirtual 114, 3) := by decide +kernel
theorem dL_law_727 : decode cL_law 727 = .ok (.if_icmp .eq 74, 3) := by decide +kernel
theorem dL_law_730 : decode cL_law 730 = .ok (.iconst 0, 1) := by decide +kernel
theorem dL_law_731 : decode cL_law 731 = .ok (.ireturn, 1) := by decide +kernel
theorem dL_law_732 : decode cL_law 732 = .ok (.aload_n 1, 1) := by decide +kernel
theorem dL_law_733 : decode cL_law 733 = .ok (.aload_n 0, 1) := by decide +kernel
theorem dL_law_734 : decode cL_law 734 = .ok (.iload_n 3, 1) := by decide +kernel
theorem dL_law_735 : decode cL_law 735 = .ok (.iconst 1, 1) := by decide +kernel
theorem dL_law_736 : decode cL_law 736 = .ok (.iadd, 1) := by decide +kernel
theorem dL_law_737 : decode cL_law 737 = .ok (.iaload, 1) := by decide +kernel
theorem dL_law_738 : decode cL_law 738 = .ok (.aload_n 0, 1) := by decide +kernel
theorem dL_law_739 : decode cL_law 739 = .ok (.iload_n 3, 1) := by decide +kernel
theorem dL_law_740 : decode cL_law 740 = .ok (.iconst 2, 1) := by decide +kernel
theorem dL_law_741 : decode cL_law 741 = .ok (.iadd, 1) := by decide +kernel
theorem dL_law_742 : decode cL_law 742 = .ok (.iaload, 1) := by decide +kernel
theorem dL_law_743 : decode cL_law 743 = .ok (.invokevirtual 115, 3) := by decide +kernel
theorem dL_law_746 : decode cL_law 746 = .ok (.aload_n 2, 1) := by decide +kernel
theorem dL_law_747 : decode cL_law 747 = .ok (.aload_n 0, 1) := by decide +kernel
theorem dL_law_748 : decode cL_law 748 = .ok (.iload_n 3, 1) := by decide +kernel
theorem dL_law_749 : decode cL_law 749 = .ok (.iconst 1, 1) := by decide +kernel
theorem dL_law_750 : decode cL_law 750 = .ok (.iadd, 1) := by decide +kernel
theorem dL_law_751 : decode cL_law 751 = .ok (.iaload, 1) := by decide +kernel
theorem dL_law_752 : decode cL_law 752 = .ok (.aload_n 0, 1) := by decide +kernel
theorem dL_law_753 : decode cL_law 753 = .ok (.iload_n 3, 1) := by decide +kernel
theorem dL_law_754 : decode cL_law 754 = .ok (.iconst 2, 1) := by decide +kernel
theorem dL_law_755 : decode cL_law 755 = .ok (.iadd, 1) := by decide +kernel
theorem dL_law_756 : decode cL_law 756 = .ok (.iaload, 1) := by decide +kernel
theorem dL_law_757 : decode cL_law 757 = .ok (.invokevirtual 118, 3) := by decide +kernel
theorem dL_law_760 : decode cL_law 760 = .ok (.if_icmp .eq 41, 3) := by decide +kernel
theorem dL_law_763 : decode cL_law 763 = .ok (.iconst 0, 1) := by decide +kernel
theorem dL_law_764 : decode cL_law 764 = .ok (.ireturn, 1) := by decide +kernel
theorem dL_law_765 : decode cL_law 765 = .ok (.aload_n 1, 1) := by decide +kernel
theorem dL_law_766 : decode cL_law 766 = .ok (.invokevirtual 119, 3) := by decide +kernel
theorem dL_law_769 : decode cL_law 769 = .ok (.aload_n 2, 1) := by decide +kernel
theorem dL_law_770 : decode cL_law 770 = .ok (.invokevirtual 122, 3) := by decide +kernel
theorem dL_law_773 : decode cL_law 773 = .ok (.if_icmp .eq 28, 3) := by decide +kernel
theorem dL_law_776 : decode cL_law 776 = .ok (.iconst 0, 1) := by decide +kernel
theorem dL_law_777 : decode cL_law 777 = .ok (.ireturn, 1) := by decide +kernel
theorem dL_law_778 : decode cL_law 778 = .ok (.aload_n 1, 1) := by decide +kernel
theorem dL_law_779 : decode cL_law 779 = .ok (.aload_n 0, 1) := by decide +kernel
theorem dL_law_780 : decode cL_law 780 = .ok (.iload_n 3, 1) := by decide +kernel
theorem dL_law_781 : decode cL_law 781 = .ok (.iconst 1, 1) := by decide +kernel
theorem dL_law_782 : decode cL_law 782 = .ok (.iadd, 1) := by decide +kernel
theorem dL_law_783 : decode cL_law 783 = .ok (.iaload, 1) := by decide +kernel
theorem dL_law_784 : decode cL_law 784 = .ok (.invokevirtual 123, 3) := by decide +kernel
theorem dL_law_787 : decode cL_law 787 = .ok (.aload_n 2, 1) := by decide +kernel
theorem dL_law_788 : decode cL_law 788 = .ok (.aload_n 0, 1) := by decide +kernel
theorem dL_law_789 : decode cL_law 789 = .ok (.iload_n 3, 1) := by decide +kernel
theorem dL_law_790 : decode cL_law 790 = .ok (.iconst 1, 1) := by decide +kernel
theorem dL_law_791 : decode cL_law 791 = .ok (.iadd, 1) := by decide +kernel
theorem dL_law_792 : decode cL_law 792 = .ok (.iaload, 1) := by decide +kernel
theorem dL_law_793 : decode cL_law 793 = .ok (.invokevirtual 126, 3) := by decide +kernel
theorem dL_law_796 : decode cL_law 796 = .ok (.if_icmp .eq 5, 3) := by decide +kernel
theorem dL_law_799 : decode cL_law 799 = .ok (.iconst 0, 1) := by decide +kernel
theorem dL_law_800 : decode cL_law 800 = .ok (.ireturn, 1) := by decide +kernel
theorem dL_law_801 : decode cL_law 801 = .ok (.iinc 3 3, 3) := by decide +kernel
theorem dL_law_804 : decode cL_law 804 = .ok (.goto (-786), 3) := by decide +kernel
theorem dL_law_807 : decode cL_law 807 = .ok (.iconst 1, 1) := by decide +kernel
theorem dL_law_808 : decode cL_law 808 = .ok (.ireturn, 1) := by decide +kernel
end
section
/-! THE ABSTRACT PICTURE: objects by numbers (0: the script, 1 .. n: what the law made, in order), ints as integers -/
abbrev AV : Type := Int ⊕ Option Nat
abbrev AH : Type := Nat × (Nat → Nat × Nat) × (Nat → Int → Option Nat) × (Nat → Int → Int)
def hk (h : AH) : Nat → Nat × Nat := h.2.1
def hr (h : AH) : Nat → Int → Option Nat := h.2.2.1
def hi (h : AH) : Nat → Int → Int := h.2.2.2
def up (h : AH) (j : Nat) (k v : Int) : AH := (h.1, h.2.1, h.2.2.1, fun a b => if a = j ∧ b = k then v else h.2.2.2 a b)
def ur (h : AH) (j : Nat) (k : Int) (v : Option Nat) : AH := (h.1, h.2.1, fun a b => if a = j ∧ b = k then v else h.2.2.1 a b, h.2.2.2)
def nw (h : AH) (kd : Nat × Nat) : AH := (h.1 + 1, fun a => if a = h.1 + 1 then kd else h.2.1 a, fun a b => if a = h.1 + 1 then none else h.2.2.1 a b, fun a b => if a = h.1 + 1 then 0 else h.2.2.2 a b)
theorem hi_up {h : AH} {j : Nat} {k v : Int} {a : Nat} {b : Int} : hi (up h j k v) a b = if a = j ∧ b = k then v else hi h a b := rfl
theorem hk_up {h : AH} {j : Nat} {k v : Int} : hk (up h j k v) = hk h := rfl
theorem hr_up {h : AH} {j : Nat} {k v : Int} : hr (up h j k v) = hr h := rfl
theorem hi_ur {h : AH} {j : Nat} {k : Int} {v : Option Nat} : hi (ur h j k v) = hi h := rfl
theorem hk_ur {h : AH} {j : Nat} {k : Int} {v : Option Nat} : hk (ur h j k v) = hk h := rfl
theorem hr_ur {h : AH} {j : Nat} {k : Int} {v : Option Nat} {a : Nat} {b : Int} : hr (ur h j k v) a b = if a = j ∧ b = k then v else hr h a b := rfl
def az (b B : Nat) : Nat → Nat
  | 0 => b
  | j + 1 => B + j
def cv (b B : Nat) : AV → Value
  | .inl v => .int (Int32.ofInt v)
  | .inr r => va_rf (r.map (az b B))
def ok : AV → Prop
  | .inl v => -2147483648 ≤ v ∧ v < 2147483648
  | .inr _ => True
abbrev rg (v : Int) : Prop := -2147483648 ≤ v ∧ v < 2147483648
def w (v : Int) : Int := (Int32.ofInt v).toInt
theorem ti {v : Int} (h : rg v) : (Int32.ofInt v).toInt = v := Int32.toInt_ofInt_of_le h.1 h.2
theorem w_id {v : Int} (h : rg v) : w v = v := ti h
theorem w_rg (v : Int) : rg (w v) := ⟨Int32.le_toInt _, Int32.toInt_lt _⟩
theorem w_of (v : Int) : Int32.ofInt (w v) = Int32.ofInt v := Int32.ofInt_toInt _
theorem rg_of (x : Int32) : rg x.toInt := ⟨Int32.le_toInt _, Int32.toInt_lt _⟩
theorem w_eq (v : Int) : w v = (v + 2147483648) % 4294967296 - 2147483648 := by
  unfold w
  rw [Int32.toInt_ofInt, Int.bmod_def]
  simp only [Int32.size]
  split <;> omega
def cT (ci : Nat) : Nat → FieldType := match ci with | 0 => tyX0 | 1 => tyX1 | 2 => tyX2 | 3 => tyX3 | 4 => tyX4 | 5 => tyX5 | 6 => tyX6 | _ => tyX7
def isR : FieldType → Bool
  | .object _ => true
  | .array _ => true
  | _ => false
theorem cl_at {ci : Nat} (h : ci < 8) : vwCl[ci]? = some (cR ci, cU ci, cN ci) := by
  match ci, h with
  | 0, _ => rfl
  | 1, _ => rfl
  | 2, _ => rfl
  | 3, _ => rfl
  | 4, _ => rfl
  | 5, _ => rfl
  | 6, _ => rfl
  | 7, _ => rfl
theorem cl_words {ci : Nat} (h : ci < 8) : ∀ w ∈ u_ws (cR ci) (cU ci) (cN ci), w ∈ tbG := by
  have g : ∀ k, k < 8 → ∀ w ∈ u_ws (cR k) (cU k) (cN k), goodWord w = true := by decide +kernel
  intro w hw
  refine List.mem_filter.mpr ⟨?_, g ci h w hw⟩
  match ci, h, hw with
  | 0, _, hw => exact inX0 w hw
  | 1, _, hw => exact inX1 w hw
  | 2, _, hw => exact inX2 w hw
  | 3, _, hw => exact inX3 w hw
  | 4, _, hw => exact inX4 w hw
  | 5, _, hw => exact inX5 w hw
  | 6, _, hw => exact inX6 w hw
  | 7, _, hw => exact inX7 w hw
theorem cl_nm {ci : Nat} (h : ci < 8) : ∀ a, a < cN ci → ∀ b, b < cN ci → a ≠ b → (cU ci a).2.1 ≠ (cU ci b).2.1 := by
  match ci, h with
  | 0, _ => exact nmX0
  | 1, _ => exact nmX1
  | 2, _ => exact nmX2
  | 3, _ => exact nmX3
  | 4, _ => exact nmX4
  | 5, _ => exact nmX5
  | 6, _ => exact nmX6
  | 7, _ => exact nmX7
theorem cl_ty {ci : Nat} (h : ci < 8) : ∀ k, k < cN ci → parseFieldDescriptor (cU ci k).2.2.1 = some (cT ci k) := by
  match ci, h with
  | 0, _ => exact tyX0_ok
  | 1, _ => exact tyX1_ok
  | 2, _ => exact tyX2_ok
  | 3, _ => exact tyX3_ok
  | 4, _ => exact tyX4_ok
  | 5, _ => exact tyX5_ok
  | 6, _ => exact tyX6_ok
  | 7, _ => exact tyX7_ok
def fvl (b B : Nat) (h : AH) (j ci k : Nat) : Value := if isR (cT ci k) = true then va_rf ((hr h j k).map (az b B)) else .int (Int32.ofInt (hi h j k))
def enc (b B : Nat) (ca : Nat → ClassId) (h : AH) (j : Nat) : va_E := match hk h j with
  | (0, ci) => .inr (ci, (List.range (cN ci)).map (fvl b B h j ci))
  | (1, n) => .inl (ca 1, n, .inl fun k => Int32.ofInt (hi h j k))
  | (2, n) => .inl (ca 2, n, .inl fun k => Int32.ofInt (hi h j k))
  | (3, n) => .inl (ca 3, n, .inl fun k => Int32.ofInt (hi h j k))
  | (_, n) => .inl (ca 4, n, .inr (.inr (.inr (.inr fun k => (hr h j k).map (az b B)))))
def wso (b B : Nat) (ca : Nat → ClassId) (h : AH) : va_W := (List.range h.1).map fun j => (B + j, enc b B ca h (j + 1))
def tys (ca : Nat → ClassId) : List (ClassId × FieldType) := [(ca 1, .int), (ca 2, .boolean), (ca 3, .char), (ca 4, .object RX2)]
/-- what the tables say that isn't kept word for word: links to nest mates, the class of rows of states -/
def NW (s : State) : Prop := (∀ q ∈ nsL, va_Nw (.methodLinkNest q.1 q.2.1 q.2.2.1 q.2.2.2) s) ∧ va_AO RX2 s
theorem NW.warm {s U : State} (hW : s.WarmedH U.vm) (h : NW s) : NW U := ⟨fun q hq => (h.1 q hq).warmM hW, h.2.moved hW.alike⟩
theorem NW.call {U : State} {g : JFrame} {mk : MethodId} {a : Array Value} (h : NW U) : NW (U.calling g mk a) := ⟨fun q hq => (h.1 q hq).same rfl rfl, h.2.moved (u := U) (U := U.calling g mk a) (Vm.Alike.refl U.vm)⟩
def okH (h : AH) : Prop := (∀ j k, rg (hi h j k)) ∧ hk h 0 = (9, 0) ∧ (∀ j, h.1 < j → hk h j = (9, 0)) ∧ ∀ j ci, hk h j = (0, ci) → ci < 8
def HP (b B : Nat) (D : va_G) (ca : Nat → ClassId) (h : AH) (H : Heap) : Prop := H.size = B + h.1 ∧ va_P D vwCl (wso b B ca h) H ∧ okH h
theorem wso_at {b B : Nat} {ca : Nat → ClassId} {h : AH} {j : Nat} (hj : j < h.1) : (wso b B ca h)[j]? = some (B + j, enc b B ca h (j + 1)) := by
  simp [wso, hj]
theorem wso_D {b B : Nat} {ca : Nat → ClassId} {h : AH} : va_D (fun q => B ≤ q) (wso b B ca h) := by
  have key : ∀ (i : Nat) (q : Nat × va_E), (wso b B ca h)[i]? = some q → q.1 = B + i := by
    intro i q hq
    have hl : i < (wso b B ca h).length := (List.getElem?_eq_some_iff.mp hq).1
    have hl' : i < h.1 := by simpa [wso] using hl
    rw [wso_at hl'] at hq
    cases hq
    rfl
  refine ⟨fun i j p q hp hq e => ?_, fun k q hq => ?_⟩
  · have h1 := key i p hp
    have h2 := key j q hq
    omega
  · have h1 := key k q hq
    show B ≤ q.1
    omega
theorem wso_set {b B : Nat} {ca : Nat → ClassId} {h h' : AH} {j : Nat} (hj : j < h.1) (hn : h'.1 = h.1) (he : ∀ i, i ≠ j + 1 → enc b B ca h' i = enc b B ca h i) : (wso b B ca h).set j (B + j, enc b B ca h' (j + 1)) = wso b B ca h' := by
  apply List.ext_getElem?
  intro i
  by_cases hij : i = j
  · subst hij
    rw [List.getElem?_set_self (by simpa [wso] using hj), wso_at (by omega)]
  · rw [List.getElem?_set_ne (Ne.symm hij)]
    by_cases hi : i < h.1
    · rw [wso_at hi, wso_at (by omega), he (i + 1) (by omega)]
    · rw [List.getElem?_eq_none (by simp [wso]; omega), List.getElem?_eq_none (by simp [wso]; omega)]
theorem wso_push {b B : Nat} {ca : Nat → ClassId} {h h' : AH} (hn : h'.1 = h.1 + 1) (he : ∀ i, i ≤ h.1 → enc b B ca h' i = enc b B ca h i) : wso b B ca h ++ [(B + h.1, enc b B ca h' (h.1 + 1))] = wso b B ca h' := by
  unfold wso
  rw [hn, List.range_succ, List.map_append]
  congr 1
  apply List.map_congr_left
  intro a ha
  have ha' := List.mem_range.mp ha
  rw [he (a + 1) (by omega)]
theorem enc_cong {b B : Nat} {ca : Nat → ClassId} {h h' : AH} {i : Nat} (h1 : hk h' i = hk h i) (h2 : ∀ k, hr h' i k = hr h i k) (h3 : ∀ k, hi h' i k = hi h i k) : enc b B ca h' i = enc b B ca h i := by
  have f : ∀ ci, fvl b B h' i ci = fvl b B h i ci := by
    intro ci
    funext k
    simp only [fvl, h2, h3]
  unfold enc
  simp only [h1, h2, h3, f]
/-! locals -/
def lpr (b B : Nat) : Nat → List (Option AV) → List (Nat × Value)
  | _, [] => []
  | i, none :: t => lpr b B (i + 1) t
  | i, some v :: t => (i, cv b B v) :: lpr b B (i + 1) t
theorem lpr_mem {b B : Nat} : ∀ (t : List (Option AV)) (i k : Nat) (v : AV), t[k]? = some (some v) → (i + k, cv b B v) ∈ lpr b B i t
  | [], i, k, v, h => by simp at h
  | none :: t, i, 0, v, h => by simp at h
  | none :: t, i, k + 1, v, h => by
    have := lpr_mem (b := b) (B := B) t (i + 1) k v (by simpa using h)
    rw [show i + (k + 1) = i + 1 + k by omega]
    exact this
  | some u :: t, i, 0, v, h => by
    simp at h
    subst h
    exact List.mem_cons_self
  | some u :: t, i, k + 1, v, h => by
    have := lpr_mem (b := b) (B := B) t (i + 1) k v (by simpa using h)
    rw [show i + (k + 1) = i + 1 + k by omega]
    exact List.mem_cons_of_mem _ this
theorem lpr_mem' {b B : Nat} : ∀ (t : List (Option AV)) (i : Nat) (q : Nat × Value), q ∈ lpr b B i t → ∃ k v, t[k]? = some (some v) ∧ q = (i + k, cv b B v)
  | [], i, q, h => by simp [lpr] at h
  | none :: t, i, q, h => by
    obtain ⟨k, v, h1, h2⟩ := lpr_mem' t (i + 1) q h
    exact ⟨k + 1, v, by simpa using h1, by rw [h2]; congr 1; omega⟩
  | some u :: t, i, q, h => by
    rcases List.mem_cons.mp h with h | h
    · exact ⟨0, u, rfl, h⟩
    · obtain ⟨k, v, h1, h2⟩ := lpr_mem' t (i + 1) q h
      exact ⟨k + 1, v, by simpa using h1, by rw [h2]; congr 1; omega⟩
def LR (b B : Nat) (ls : List (Option AV)) (lc : Array Slot) : Prop := lv_has lc ls.length (lpr b B 0 ls) ∧ ∀ (k : Nat) (v : AV), ls[k]? = some (some v) → ok v
theorem LR.get {b B : Nat} {ls : List (Option AV)} {lc : Array Slot} (h : LR b B ls lc) {i : Nat} {v : AV} (hi : ls[i]? = some (some v)) : lc[i]? = some (.val (cv b B v)) := by
  have := h.1.2.2 _ (lpr_mem ls 0 i v hi)
  simpa using this
theorem cv_cat {b B : Nat} (v : AV) : (cv b B v).category = 1 := by
  rcases v with v | _ | j <;> rfl
theorem LR.set {b B : Nat} {ls : List (Option AV)} {lc lc' : Array Slot} (h : LR b B ls lc) {i : Nat} {v : AV} (hi : i < ls.length) (hv : ok v) (h' : lv_has lc' ls.length ((i, cv b B v) :: (lpr b B 0 ls).filter (fun q => !(q.1 == i) && !(q.1 + 1 == i && q.2.category == 2)))) : LR b B (ls.set i (some v)) lc' := by
  refine ⟨⟨by rw [List.length_set]; exact h'.1, h'.2.1, fun q hq => ?_⟩, fun k u hk => ?_⟩
  · obtain ⟨k, u, h1, h2⟩ := lpr_mem' _ _ _ hq
    refine h'.2.2 q ?_
    by_cases hki : k = i
    · subst hki
      rw [List.getElem?_set_self hi] at h1
      cases h1
      rw [h2, Nat.zero_add]
      exact List.mem_cons_self
    · rw [List.getElem?_set_ne (Ne.symm hki)] at h1
      refine List.mem_cons_of_mem _ (List.mem_filter.mpr ⟨?_, ?_⟩)
      · rw [h2]
        exact lpr_mem ls 0 k u h1
      · rw [h2]
        simp [cv_cat, hki]
  · by_cases hki : k = i
    · subst hki
      rw [List.getElem?_set_self hi] at hk
      cases hk
      exact hv
    · rw [List.getElem?_set_ne (Ne.symm hki)] at hk
      exact h.2 k u hk
/-! the judgement -/
def CX (md : MD) (d : Nat) (scr : Option (Nat × (Nat → Int))) (p : Program) (R : Room) (s : State) (m : MethodId) (args : Array Value) (meth : Method) (c : Code) (b B : Nat) (D : va_G) (ca : Nat → ClassId) : Prop :=
  p.tables.exec = Jvm.exec ∧ c.code = md.2.1 ∧ c.maxLocals = md.2.2.1 ∧ s.vm.findClass md.1.cls = some m.cls ∧ (∀ w ∈ tbG, w.before args s = true) ∧ meth.name = md.1.name ∧ va_K D vwCl (tys ca) s ∧ (B ≤ s.heap.size ∧ NW s) ∧ R.cells = md.2.2.2.2.1 ∧ R.slots = md.2.2.2.2.2 ∧ d ≤ R.frames ∧ 40 * d ≤ R.locals ∧ (∀ q, scr = some q → va_X b q.1 (fun j => Int32.ofInt (q.2 j)) s s.heap ∧ b < B ∧ B = s.heap.size ∧ q.1 < 2147483648 ∧ ∀ j, rg (q.2 j))
def HR (b B : Nat) (D : va_G) (ca : Nat → ClassId) (H0 : Heap) (h : AH) (H : Heap) (locs : List Loc) : Prop := HP b B D ca h H ∧ va_S (fun q => B ≤ q) H0 H locs
def okr (t : Option FieldType) (v : Int) : Prop := match t with
  | some .int => rg v
  | some .boolean => v = 0 ∨ v = 1
  | some .char => 0 ≤ v ∧ v < 65536
  | _ => False
def AW (md : MD) (d : Nat) (scr : Option (Nat × (Nat → Int))) (Q : Option Int → AH → Prop) (pc : Nat) (ls : List (Option AV)) (st : List AV) (h : AH) (k : Nat × Nat) : Prop :=
  ∀ (p : Program) (l : Launch) (e : Env) (R : Room) (s : State) (m : MethodId) (args : Array Value) (below : List Frame) (meth : Method) (c : Code) (b B : Nat) (D : va_G) (ca : Nat → ClassId) (H : Heap) (locs : List Loc) (lc : Array Slot) (Qw : State → Prop),
    CX md d scr p R s m args meth c b B D ca → ls.length = md.2.2.1 → HR b B D ca s.heap h H locs → LR b B ls lc → (∀ a ∈ st, ok a) →
    (∀ (r : Option Int) (pc : Nat) (h : AH) (H : Heap) (locs : List Loc) (lc : Array Slot) (k : Nat × Nat), HR b B D ca s.heap h H locs → Q r h → k.1 ≤ md.2.2.2.2.1 → k.2 ≤ md.2.2.2.2.2 →
      match r with
      | none => md.2.2.2.1 = none → decode md.2.1 pc = .ok (.return_, 1) → W p l e R s m args below meth c H locs k.1 k.2 Qw (F0 m pc lc [])
      | some v => okr md.2.2.2.1 v → decode md.2.1 pc = .ok (.ireturn, 1) → W p l e R s m args below meth c H locs k.1 k.2 Qw (F0 m pc lc [.int (Int32.ofInt v)])) →
    W p l e R s m args below meth c H locs k.1 k.2 Qw (F0 m pc lc (st.map (cv b B)))
def Pst (b B : Nat) (D : va_G) (ca : Nat → ClassId) (Q : Option Int → AH → Prop) : Array Value → State → Outcome → State → Prop := fun _ st oc t =>
  (∃ (r : Option Int) (h' : AH), oc = .returned (r.map fun v => .int (Int32.ofInt v)) ∧ (∀ v, r = some v → rg v) ∧ Q r h' ∧ HP b B D ca h' t.heap) ∧ va_F (fun q => B ≤ q) st t
def Prc (b B : Nat) (D : va_G) (ca : Nat → ClassId) (as : List AV) (h : AH) : Array Value → State → Prop := va_Pc (as.map (cv b B)) fun U => HP b B D ca h U.heap ∧ va_K D vwCl (tys ca) U ∧ NW U
def rmo (d : Nat) (md : MD) : Room := { frames := d, cells := md.2.2.2.2.1, slots := md.2.2.2.2.2, locals := 40 * d }
def wmo (md : MD) : List Cond := .code md.1 md.2.1 md.2.2.1 md.2.2.2.1 :: tbG
def AM (d : Nat) (md : MD) (as : List AV) (h : AH) (Q : Option Int → AH → Prop) : Prop :=
  ∀ (l : Launch) (b B : Nat) (D : va_G) (ca : Nat → ClassId), (∀ a ∈ as, ok a) → Met l md.1 (wmo md) (rmo d md) (Prc b B D ca as h) (Pst b B D ca Q) md.2.2.2.2.1 md.2.2.2.2.2 (fun q => B ≤ q)
end
section
section RU
variable {md : MD} {d : Nat} {scr : Option (Nat × (Nat → Int))} {Q : Option Int → AH → Prop} {pc : Nat} {ls : List (Option AV)} {st : List AV} {h : AH} {k : Nat × Nat}
theorem ok_of {st : List AV} {a : AV} (ha : ok a) (h : ∀ x ∈ st, ok x) : ∀ x ∈ a :: st, ok x := fun x hx => (List.mem_cons.mp hx).elim (fun e => e ▸ ha) (h x)
theorem ok_tl {st : List AV} {a : AV} (h : ∀ x ∈ a :: st, ok x) : ∀ x ∈ st, ok x := fun x hx => h x (List.mem_cons_of_mem _ hx)
theorem ok_hd {st : List AV} {a : AV} (h : ∀ x ∈ a :: st, ok x) : ok a := h a List.mem_cons_self
theorem rg_i8 (n : Int) : rg (Int8.ofInt n).toInt32.toInt := rg_of _
/-! constants -/
theorem aw_int {n : Int} {len : Nat} {i : Instr} (hd : decode md.2.1 pc = .ok (i, len)) (hi : (i = .iconst n ∧ len = 1 ∧ rg n) ∨ (i = .bipush n ∧ len = 2 ∧ -128 ≤ n ∧ n < 128) ∨ (i = .sipush n ∧ len = 3 ∧ -32768 ≤ n ∧ n < 32768))
    (kk : AW md d scr Q (pc + len) ls (.inl n :: st) h k) : AW md d scr Q pc ls st h k := by
  intro p l e R s m args below meth c b B D ca H locs lc Qw C hlen hH hL hst RH
  rcases hi with ⟨rfl, rfl, hn⟩ | ⟨rfl, rfl, hn⟩ | ⟨rfl, rfl, hn⟩
  · exact lv_iconst (v := Int32.ofInt n) C.1 C.2.1 hd rfl (kk p l e R s m args below meth c b B D ca H locs lc Qw C hlen hH hL (ok_of hn hst) RH)
  · refine lv_bipush (v := Int32.ofInt n) C.1 C.2.1 hd ?_ (kk p l e R s m args below meth c b B D ca H locs lc Qw C hlen hH hL (ok_of ⟨by omega, by omega⟩ hst) RH)
    apply Int32.toInt_inj.mp
    rw [ti ⟨by omega, by omega⟩, Int8.toInt_toInt32]
    exact Int8.toInt_ofInt_of_le (by omega) (by omega)
  · refine lv_sipush (v := Int32.ofInt n) C.1 C.2.1 hd ?_ (kk p l e R s m args below meth c b B D ca H locs lc Qw C hlen hH hL (ok_of ⟨by omega, by omega⟩ hst) RH)
    apply Int32.toInt_inj.mp
    rw [ti ⟨by omega, by omega⟩, Int16.toInt_toInt32]
    exact Int16.toInt_ofInt_of_le (by omega) (by omega)
theorem aw_iconst {n : Int} (hd : decode md.2.1 pc = .ok (.iconst n, 1)) (kk : AW md d scr Q (pc + 1) ls (.inl n :: st) h k) (hn : rg n := by decide) : AW md d scr Q pc ls st h k := aw_int hd (Or.inl ⟨rfl, rfl, hn⟩) kk
theorem aw_bipush {n : Int} (hd : decode md.2.1 pc = .ok (.bipush n, 2)) (kk : AW md d scr Q (pc + 2) ls (.inl n :: st) h k) (hn : -128 ≤ n ∧ n < 128 := by decide) : AW md d scr Q pc ls st h k := aw_int hd (Or.inr (Or.inl ⟨rfl, rfl, hn⟩)) kk
theorem aw_sipush {n : Int} (hd : decode md.2.1 pc = .ok (.sipush n, 3)) (kk : AW md d scr Q (pc + 3) ls (.inl n :: st) h k) (hn : -32768 ≤ n ∧ n < 32768 := by decide) : AW md d scr Q pc ls st h k := aw_int hd (Or.inr (Or.inr ⟨rfl, rfl, hn⟩)) kk
theorem aw_ldc {n : Int} {i : Nat} (hd : decode md.2.1 pc = .ok (.ldc i, 2)) (hc : Jvm.Cond.constant md.1.cls i (Int32.ofInt n) ∈ tbG) (hn : rg n) (kk : AW md d scr Q (pc + 2) ls (.inl n :: st) h k) : AW md d scr Q pc ls st h k := by
  intro p l e R s m args below meth c b B D ca H locs lc Qw C hlen hH hL hst RH
  exact lv_ldc C.1 C.2.1 C.2.2.2.1 (C.2.2.2.2.1 _ hc) hd (kk p l e R s m args below meth c b B D ca H locs lc Qw C hlen hH hL (ok_of hn hst) RH)
/-! locals -/
theorem aw_iload {i : Nat} {v : Int} (hd : decode md.2.1 pc = .ok (.iload i, 2)) (hl : ls[i]? = some (some (.inl v))) (kk : AW md d scr Q (pc + 2) ls (.inl v :: st) h k) : AW md d scr Q pc ls st h k := by
  intro p l e R s m args below meth c b B D ca H locs lc Qw C hlen hH hL hst RH
  exact lv_iload C.1 C.2.1 hd (hL.get hl) (kk p l e R s m args below meth c b B D ca H locs lc Qw C hlen hH hL (ok_of (hL.2 _ _ hl) hst) RH)
theorem aw_iload_n {i : Fin 4} {v : Int} (hd : decode md.2.1 pc = .ok (.iload_n i, 1)) (hl : ls[i.val]? = some (some (.inl v))) (kk : AW md d scr Q (pc + 1) ls (.inl v :: st) h k) : AW md d scr Q pc ls st h k := by
  intro p l e R s m args below meth c b B D ca H locs lc Qw C hlen hH hL hst RH
  exact lv_iload_n C.1 C.2.1 hd rfl (hL.get hl) (kk p l e R s m args below meth c b B D ca H locs lc Qw C hlen hH hL (ok_of (hL.2 _ _ hl) hst) RH)
theorem aw_aload {i : Nat} {r : Option Nat} (hd : decode md.2.1 pc = .ok (.aload i, 2)) (hl : ls[i]? = some (some (.inr r))) (kk : AW md d scr Q (pc + 2) ls (.inr r :: st) h k) : AW md d scr Q pc ls st h k := by
  intro p l e R s m args below meth c b B D ca H locs lc Qw C hlen hH hL hst RH
  have h1 := kk p l e R s m args below meth c b B D ca H locs lc Qw C hlen hH hL (ok_of trivial hst) RH
  have h2 := hL.get hl
  cases r with
  | none => exact lv_aloadN C.1 C.2.1 hd h2 h1
  | some j => exact lv_aload C.1 C.2.1 hd h2 h1
theorem aw_aload_n {i : Fin 4} {r : Option Nat} (hd : decode md.2.1 pc = .ok (.aload_n i, 1)) (hl : ls[i.val]? = some (some (.inr r))) (kk : AW md d scr Q (pc + 1) ls (.inr r :: st) h k) : AW md d scr Q pc ls st h k := by
  intro p l e R s m args below meth c b B D ca H locs lc Qw C hlen hH hL hst RH
  have h1 := kk p l e R s m args below meth c b B D ca H locs lc Qw C hlen hH hL (ok_of trivial hst) RH
  have h2 := hL.get hl
  cases r with
  | none => exact lv_aload_nN C.1 C.2.1 hd rfl h2 h1
  | some j => exact lv_aload_n C.1 C.2.1 hd rfl h2 h1
theorem aw_istore {i : Nat} {v : Int} (hd : decode md.2.1 pc = .ok (.istore i, 2)) (hi : i < ls.length) (kk : AW md d scr Q (pc + 2) (ls.set i (some (.inl v))) st h k) : AW md d scr Q pc ls (.inl v :: st) h k := by
  intro p l e R s m args below meth c b B D ca H locs lc Qw C hlen hH hL hst RH
  exact lv_istore C.1 C.2.1 hd hL.1 hi rfl fun ls' h' => kk p l e R s m args below meth c b B D ca H locs ls' Qw C (by rw [List.length_set]; exact hlen) hH (hL.set (v := .inl v) hi (ok_hd hst) h') (ok_tl hst) RH
theorem aw_istore_n {i : Fin 4} {v : Int} (hd : decode md.2.1 pc = .ok (.istore_n i, 1)) (hi : i.val < ls.length) (kk : AW md d scr Q (pc + 1) (ls.set i.val (some (.inl v))) st h k) : AW md d scr Q pc ls (.inl v :: st) h k := by
  intro p l e R s m args below meth c b B D ca H locs lc Qw C hlen hH hL hst RH
  exact lv_istore_n C.1 C.2.1 hd rfl hL.1 hi rfl fun ls' h' => kk p l e R s m args below meth c b B D ca H locs ls' Qw C (by rw [List.length_set]; exact hlen) hH (hL.set (v := .inl v) hi (ok_hd hst) h') (ok_tl hst) RH
theorem aw_astore {i : Nat} {r : Nat} (hd : decode md.2.1 pc = .ok (.astore i, 2)) (hi : i < ls.length) (kk : AW md d scr Q (pc + 2) (ls.set i (some (.inr (some r)))) st h k) : AW md d scr Q pc ls (.inr (some r) :: st) h k := by
  intro p l e R s m args below meth c b B D ca H locs lc Qw C hlen hH hL hst RH
  exact lv_astore C.1 C.2.1 hd hL.1 hi rfl fun ls' h' => kk p l e R s m args below meth c b B D ca H locs ls' Qw C (by rw [List.length_set]; exact hlen) hH (hL.set (v := .inr (some r)) hi trivial h') (ok_tl hst) RH
theorem aw_astore_n {i : Fin 4} {r : Nat} (hd : decode md.2.1 pc = .ok (.astore_n i, 1)) (hi : i.val < ls.length) (kk : AW md d scr Q (pc + 1) (ls.set i.val (some (.inr (some r)))) st h k) : AW md d scr Q pc ls (.inr (some r) :: st) h k := by
  intro p l e R s m args below meth c b B D ca H locs lc Qw C hlen hH hL hst RH
  exact lv_astore_n C.1 C.2.1 hd rfl hL.1 hi rfl fun ls' h' => kk p l e R s m args below meth c b B D ca H locs ls' Qw C (by rw [List.length_set]; exact hlen) hH (hL.set (v := .inr (some r)) hi trivial h') (ok_tl hst) RH
theorem aw_iinc_w {i : Nat} {n v : Int} (hd : decode md.2.1 pc = .ok (.iinc i n, 3)) (hl : ls[i]? = some (some (.inl v))) (kk : AW md d scr Q (pc + 3) (ls.set i (some (.inl (w (v + n))))) st h k) : AW md d scr Q pc ls st h k := by
  intro p l e R s m args below meth c b B D ca H locs lc Qw C hlen hH hL hst RH
  have hi : i < ls.length := (List.getElem?_eq_some_iff.mp hl).1
  obtain ⟨kx, hkx⟩ := List.getElem?_of_mem (lpr_mem (b := b) (B := B) ls 0 i _ hl)
  rw [Nat.zero_add] at hkx
  exact lv_iinc (v := Int32.ofInt (w (v + n))) C.1 C.2.1 hd hL.1 hkx (by rw [w_of, Int32.ofInt_add]) hi rfl fun ls' h' => kk p l e R s m args below meth c b B D ca H locs ls' Qw C (by rw [List.length_set]; exact hlen) hH (hL.set (v := .inl (w (v + n))) hi (w_rg _) h') hst RH
theorem aw_iinc {i : Nat} {n v : Int} (hd : decode md.2.1 pc = .ok (.iinc i n, 3)) (hl : ls[i]? = some (some (.inl v))) (hn : rg (v + n)) (kk : AW md d scr Q (pc + 3) (ls.set i (some (.inl (v + n)))) st h k) : AW md d scr Q pc ls st h k :=
  aw_iinc_w hd hl (by rw [w_id hn]; exact kk)
/-! numbers -/
def b2 (f : Int32 → Int32 → Int32) (x y : Int) : Int := (f (Int32.ofInt x) (Int32.ofInt y)).toInt
theorem b2_rg (f : Int32 → Int32 → Int32) (x y : Int) : rg (b2 f x y) := rg_of _
theorem b2_of (f : Int32 → Int32 → Int32) (x y : Int) : Int32.ofInt (b2 f x y) = f (Int32.ofInt x) (Int32.ofInt y) := Int32.ofInt_toInt _
def an (x y : Int) : Int := b2 (fun a b => a &&& b) x y
def orr (x y : Int) : Int := b2 (fun a b => a ||| b) x y
def xr (x y : Int) : Int := b2 (fun a b => a ^^^ b) x y
def sl (x y : Int) : Int := b2 (fun a b => a <<< (b &&& 31)) x y
def sr (x y : Int) : Int := b2 (fun a b => a >>> (b &&& 31)) x y
def dv (x y : Int) : Int := b2 (fun a b => a / b) x y
def rm (x y : Int) : Int := b2 (fun a b => a - a / b * b) x y
theorem aw_iadd_w {x y : Int} (hd : decode md.2.1 pc = .ok (.iadd, 1)) (kk : AW md d scr Q (pc + 1) ls (.inl (w (x + y)) :: st) h k) : AW md d scr Q pc ls (.inl y :: .inl x :: st) h k := by
  intro p l e R s m args below meth c b B D ca H locs lc Qw C hlen hH hL hst RH
  refine lv_iadd C.1 C.2.1 hd ?_
  have h1 := kk p l e R s m args below meth c b B D ca H locs lc Qw C hlen hH hL (ok_of (w_rg _) (ok_tl (ok_tl hst))) RH
  rw [← Int32.ofInt_add, ← w_of]
  exact h1
theorem aw_isub_w {x y : Int} (hd : decode md.2.1 pc = .ok (.isub, 1)) (kk : AW md d scr Q (pc + 1) ls (.inl (w (x - y)) :: st) h k) : AW md d scr Q pc ls (.inl y :: .inl x :: st) h k := by
  intro p l e R s m args below meth c b B D ca H locs lc Qw C hlen hH hL hst RH
  refine lv_isub C.1 C.2.1 hd ?_
  have h1 := kk p l e R s m args below meth c b B D ca H locs lc Qw C hlen hH hL (ok_of (w_rg _) (ok_tl (ok_tl hst))) RH
  rw [← Int32.ofInt_sub, ← w_of]
  exact h1
theorem aw_imul_w {x y : Int} (hd : decode md.2.1 pc = .ok (.imul, 1)) (kk : AW md d scr Q (pc + 1) ls (.inl (w (x * y)) :: st) h k) : AW md d scr Q pc ls (.inl y :: .inl x :: st) h k := by
  intro p l e R s m args below meth c b B D ca H locs lc Qw C hlen hH hL hst RH
  refine lv_imul C.1 C.2.1 hd ?_
  have h1 := kk p l e R s m args below meth c b B D ca H locs lc Qw C hlen hH hL (ok_of (w_rg _) (ok_tl (ok_tl hst))) RH
  rw [← Int32.ofInt_mul, ← w_of]
  exact h1
theorem aw_iadd {x y : Int} (hd : decode md.2.1 pc = .ok (.iadd, 1)) (hn : rg (x + y)) (kk : AW md d scr Q (pc + 1) ls (.inl (x + y) :: st) h k) : AW md d scr Q pc ls (.inl y :: .inl x :: st) h k := aw_iadd_w hd (by rw [w_id hn]; exact kk)
theorem aw_isub {x y : Int} (hd : decode md.2.1 pc = .ok (.isub, 1)) (hn : rg (x - y)) (kk : AW md d scr Q (pc + 1) ls (.inl (x - y) :: st) h k) : AW md d scr Q pc ls (.inl y :: .inl x :: st) h k := aw_isub_w hd (by rw [w_id hn]; exact kk)
theorem aw_imul {x y : Int} (hd : decode md.2.1 pc = .ok (.imul, 1)) (hn : rg (x * y)) (kk : AW md d scr Q (pc + 1) ls (.inl (x * y) :: st) h k) : AW md d scr Q pc ls (.inl y :: .inl x :: st) h k := aw_imul_w hd (by rw [w_id hn]; exact kk)
theorem aw_iand {x y : Int} (hd : decode md.2.1 pc = .ok (.iand, 1)) (kk : AW md d scr Q (pc + 1) ls (.inl (an x y) :: st) h k) : AW md d scr Q pc ls (.inl y :: .inl x :: st) h k := by
  intro p l e R s m args below meth c b B D ca H locs lc Qw C hlen hH hL hst RH
  refine lv_iand C.1 C.2.1 hd ?_
  have h1 := kk p l e R s m args below meth c b B D ca H locs lc Qw C hlen hH hL (ok_of (b2_rg _ _ _) (ok_tl (ok_tl hst))) RH
  rw [← b2_of (fun a b => a &&& b)]
  exact h1
theorem aw_ior {x y : Int} (hd : decode md.2.1 pc = .ok (.ior, 1)) (kk : AW md d scr Q (pc + 1) ls (.inl (orr x y) :: st) h k) : AW md d scr Q pc ls (.inl y :: .inl x :: st) h k := by
  intro p l e R s m args below meth c b B D ca H locs lc Qw C hlen hH hL hst RH
  refine lv_ior C.1 C.2.1 hd ?_
  have h1 := kk p l e R s m args below meth c b B D ca H locs lc Qw C hlen hH hL (ok_of (b2_rg _ _ _) (ok_tl (ok_tl hst))) RH
  rw [← b2_of (fun a b => a ||| b)]
  exact h1
theorem aw_ixor {x y : Int} (hd : decode md.2.1 pc = .ok (.ixor, 1)) (kk : AW md d scr Q (pc + 1) ls (.inl (xr x y) :: st) h k) : AW md d scr Q pc ls (.inl y :: .inl x :: st) h k := by
  intro p l e R s m args below meth c b B D ca H locs lc Qw C hlen hH hL hst RH
  refine lv_ixor C.1 C.2.1 hd ?_
  have h1 := kk p l e R s m args below meth c b B D ca H locs lc Qw C hlen hH hL (ok_of (b2_rg _ _ _) (ok_tl (ok_tl hst))) RH
  rw [← b2_of (fun a b => a ^^^ b)]
  exact h1
theorem aw_ishl {x y : Int} (hd : decode md.2.1 pc = .ok (.ishl, 1)) (kk : AW md d scr Q (pc + 1) ls (.inl (sl x y) :: st) h k) : AW md d scr Q pc ls (.inl y :: .inl x :: st) h k := by
  intro p l e R s m args below meth c b B D ca H locs lc Qw C hlen hH hL hst RH
  refine lv_ishl C.1 C.2.1 hd ?_
  have h1 := kk p l e R s m args below meth c b B D ca H locs lc Qw C hlen hH hL (ok_of (b2_rg _ _ _) (ok_tl (ok_tl hst))) RH
  rw [← b2_of (fun a b => a <<< (b &&& 31))]
  exact h1
theorem aw_ishr {x y : Int} (hd : decode md.2.1 pc = .ok (.ishr, 1)) (kk : AW md d scr Q (pc + 1) ls (.inl (sr x y) :: st) h k) : AW md d scr Q pc ls (.inl y :: .inl x :: st) h k := by
  intro p l e R s m args below meth c b B D ca H locs lc Qw C hlen hH hL hst RH
  refine lv_ishr C.1 C.2.1 hd ?_
  have h1 := kk p l e R s m args below meth c b B D ca H locs lc Qw C hlen hH hL (ok_of (b2_rg _ _ _) (ok_tl (ok_tl hst))) RH
  rw [← b2_of (fun a b => a >>> (b &&& 31))]
  exact h1
theorem ne0 {y : Int} (hy : rg y) (h : y ≠ 0) : ¬ Int32.ofInt y = 0 := by
  intro q
  apply h
  have := congrArg Int32.toInt q
  rw [ti hy] at this
  exact this
theorem aw_idiv {x y : Int} (hd : decode md.2.1 pc = .ok (.idiv, 1)) (hy : y ≠ 0) (kk : AW md d scr Q (pc + 1) ls (.inl (dv x y) :: st) h k) : AW md d scr Q pc ls (.inl y :: .inl x :: st) h k := by
  intro p l e R s m args below meth c b B D ca H locs lc Qw C hlen hH hL hst RH
  refine lv_idiv C.1 C.2.1 hd (ne0 (ok_hd hst) hy) ?_
  have h1 := kk p l e R s m args below meth c b B D ca H locs lc Qw C hlen hH hL (ok_of (b2_rg _ _ _) (ok_tl (ok_tl hst))) RH
  rw [← b2_of (fun a b => a / b)]
  exact h1
theorem aw_irem {x y : Int} (hd : decode md.2.1 pc = .ok (.irem, 1)) (hy : y ≠ 0) (kk : AW md d scr Q (pc + 1) ls (.inl (rm x y) :: st) h k) : AW md d scr Q pc ls (.inl y :: .inl x :: st) h k := by
  intro p l e R s m args below meth c b B D ca H locs lc Qw C hlen hH hL hst RH
  refine lv_irem C.1 C.2.1 hd (ne0 (ok_hd hst) hy) ?_
  have h1 := kk p l e R s m args below meth c b B D ca H locs lc Qw C hlen hH hL (ok_of (b2_rg _ _ _) (ok_tl (ok_tl hst))) RH
  rw [← b2_of (fun a b => a - a / b * b)]
  exact h1
theorem aw_i2c {x : Int} (hd : decode md.2.1 pc = .ok (.i2c, 1)) (kk : ∀ y, 0 ≤ y → y < 65536 → y = x % 65536 → AW md d scr Q (pc + 1) ls (.inl y :: st) h k) : AW md d scr Q pc ls (.inl x :: st) h k := by
  intro p l e R s m args below meth c b B D ca H locs lc Qw C hlen hH hL hst RH
  have hx : rg x := ok_hd hst
  refine lv_i2c (v := Int32.ofInt (x % 65536)) C.1 C.2.1 hd ?_ ?_
  · rw [pk_char]
    apply Int32.toInt_inj.mp
    rw [ti ⟨by omega, by omega⟩, nI_toInt (by omega)]
    have h2 : (Int32.ofInt x).toBitVec = BitVec.ofInt 32 x := rfl
    rw [h2, BitVec.toNat_ofInt]
    omega
  · exact kk (x % 65536) (by omega) (by omega) rfl p l e R s m args below meth c b B D ca H locs lc Qw C hlen hH hL (ok_of ⟨by omega, by omega⟩ (ok_tl hst)) RH
/-! the stack -/
theorem aw_dup {v : AV} (hd : decode md.2.1 pc = .ok (.dup, 1)) (kk : AW md d scr Q (pc + 1) ls (v :: v :: st) h k) : AW md d scr Q pc ls (v :: st) h k := by
  intro p l e R s m args below meth c b B D ca H locs lc Qw C hlen hH hL hst RH
  exact lv_dup C.1 C.2.1 hd (cv_cat v) (kk p l e R s m args below meth c b B D ca H locs lc Qw C hlen hH hL (ok_of (ok_hd hst) hst) RH)
theorem aw_pop {v : AV} (hd : decode md.2.1 pc = .ok (.pop, 1)) (kk : AW md d scr Q (pc + 1) ls st h k) : AW md d scr Q pc ls (v :: st) h k := by
  intro p l e R s m args below meth c b B D ca H locs lc Qw C hlen hH hL hst RH
  exact lv_pop C.1 C.2.1 hd (cv_cat v) (kk p l e R s m args below meth c b B D ca H locs lc Qw C hlen hH hL (ok_tl hst) RH)
theorem aw_dup2 {v u : AV} (hd : decode md.2.1 pc = .ok (.dup2, 1)) (kk : AW md d scr Q (pc + 1) ls (v :: u :: v :: u :: st) h k) : AW md d scr Q pc ls (v :: u :: st) h k := by
  intro p l e R s m args below meth c b B D ca H locs lc Qw C hlen hH hL hst RH
  exact lv_dup2_11 C.1 C.2.1 hd (cv_cat v) (cv_cat u) (kk p l e R s m args below meth c b B D ca H locs lc Qw C hlen hH hL (ok_of (ok_hd hst) (ok_of (ok_hd (ok_tl hst)) hst)) RH)
/-! branches -/
theorem i_lt {x y : Int} (hx : rg x) (hy : rg y) : Int32.ofInt x < Int32.ofInt y ↔ x < y := by rw [Int32.lt_iff_toInt_lt, ti hx, ti hy]
theorem i_le {x y : Int} (hx : rg x) (hy : rg y) : Int32.ofInt x ≤ Int32.ofInt y ↔ x ≤ y := by rw [Int32.le_iff_toInt_le, ti hx, ti hy]
theorem i_eq {x y : Int} (hx : rg x) (hy : rg y) : Int32.ofInt x = Int32.ofInt y ↔ x = y := ⟨fun q => by have := congrArg Int32.toInt q; rw [ti hx, ti hy] at this; exact this, fun q => by rw [q]⟩
theorem rg0 : rg 0 := by decide
theorem aw_goto {off : Int} {tgt : Nat} (hd : decode md.2.1 pc = .ok (.goto off, 3)) (ht : (pc : Int) + off = (tgt : Int)) (kk : AW md d scr Q tgt ls st h k) : AW md d scr Q pc ls st h k := by
  intro p l e R s m args below meth c b B D ca H locs lc Qw C hlen hH hL hst RH
  exact lv_goto C.1 C.2.1 hd ht (kk p l e R s m args below meth c b B D ca H locs lc Qw C hlen hH hL hst RH)
theorem aw_icmp_eq {x y off : Int} {tgt : Nat} (hd : decode md.2.1 pc = .ok (.if_icmp .eq off, 3)) (ht : (pc : Int) + off = (tgt : Int)) (kt : x = y → AW md d scr Q tgt ls st h k) (kf : ¬ (x = y) → AW md d scr Q (pc + 3) ls st h k) : AW md d scr Q pc ls (.inl y :: .inl x :: st) h k := by
  intro p l e R s m args below meth c b B D ca H locs lc Qw C hlen hH hL hst RH
  have hy : rg y := ok_hd hst
  have hx : rg x := ok_hd (ok_tl hst)
  have hi := i_eq hx hy
  have hst2 := ok_tl (ok_tl hst)
  by_cases hc : x = y
  · exact lv_icmp_eq C.1 C.2.1 hd ht (fun _ => kt hc p l e R s m args below meth c b B D ca H locs lc Qw C hlen hH hL hst2 RH) (fun q => absurd (hi.mpr hc) q)
  · exact lv_icmp_eq C.1 C.2.1 hd ht (fun q => absurd (hi.mp q) hc) (fun _ => kf hc p l e R s m args below meth c b B D ca H locs lc Qw C hlen hH hL hst2 RH)
theorem aw_if_eq {x off : Int} {tgt : Nat} (hd : decode md.2.1 pc = .ok (.ifCond .eq off, 3)) (ht : (pc : Int) + off = (tgt : Int)) (kt : x = 0 → AW md d scr Q tgt ls st h k) (kf : ¬ (x = 0) → AW md d scr Q (pc + 3) ls st h k) : AW md d scr Q pc ls (.inl x :: st) h k := by
  intro p l e R s m args below meth c b B D ca H locs lc Qw C hlen hH hL hst RH
  have hx : rg x := ok_hd hst
  have hi := i_eq hx rg0
  have hst2 := ok_tl hst
  by_cases hc : x = 0
  · exact lv_if_eq C.1 C.2.1 hd ht (fun _ => kt hc p l e R s m args below meth c b B D ca H locs lc Qw C hlen hH hL hst2 RH) (fun q => absurd (hi.mpr hc) q)
  · exact lv_if_eq C.1 C.2.1 hd ht (fun q => absurd (hi.mp q) hc) (fun _ => kf hc p l e R s m args below meth c b B D ca H locs lc Qw C hlen hH hL hst2 RH)
theorem aw_icmp_ne {x y off : Int} {tgt : Nat} (hd : decode md.2.1 pc = .ok (.if_icmp .ne off, 3)) (ht : (pc : Int) + off = (tgt : Int)) (kt : ¬ x = y → AW md d scr Q tgt ls st h k) (kf : ¬ (¬ x = y) → AW md d scr Q (pc + 3) ls st h k) : AW md d scr Q pc ls (.inl y :: .inl x :: st) h k := by
  intro p l e R s m args below meth c b B D ca H locs lc Qw C hlen hH hL hst RH
  have hy : rg y := ok_hd hst
  have hx : rg x := ok_hd (ok_tl hst)
  have hi := i_eq hx hy
  have hst2 := ok_tl (ok_tl hst)
  by_cases hc : ¬ x = y
  · exact lv_icmp_ne C.1 C.2.1 hd ht (fun _ => kt hc p l e R s m args below meth c b B D ca H locs lc Qw C hlen hH hL hst2 RH) (fun q => absurd (hi.mp q) hc)
  · exact lv_icmp_ne C.1 C.2.1 hd ht (fun q => absurd (fun z => q (hi.mpr z)) hc) (fun _ => kf hc p l e R s m args below meth c b B D ca H locs lc Qw C hlen hH hL hst2 RH)
theorem aw_if_ne {x off : Int} {tgt : Nat} (hd : decode md.2.1 pc = .ok (.ifCond .ne off, 3)) (ht : (pc : Int) + off = (tgt : Int)) (kt : ¬ x = 0 → AW md d scr Q tgt ls st h k) (kf : ¬ (¬ x = 0) → AW md d scr Q (pc + 3) ls st h k) : AW md d scr Q pc ls (.inl x :: st) h k := by
  intro p l e R s m args below meth c b B D ca H locs lc Qw C hlen hH hL hst RH
  have hx : rg x := ok_hd hst
  have hi := i_eq hx rg0
  have hst2 := ok_tl hst
  by_cases hc : ¬ x = 0
  · exact lv_if_ne C.1 C.2.1 hd ht (fun _ => kt hc p l e R s m args below meth c b B D ca H locs lc Qw C hlen hH hL hst2 RH) (fun q => absurd (hi.mp q) hc)
  · exact lv_if_ne C.1 C.2.1 hd ht (fun q => absurd (fun z => q (hi.mpr z)) hc) (fun _ => kf hc p l e R s m args below meth c b B D ca H locs lc Qw C hlen hH hL hst2 RH)
theorem aw_icmp_lt {x y off : Int} {tgt : Nat} (hd : decode md.2.1 pc = .ok (.if_icmp .lt off, 3)) (ht : (pc : Int) + off = (tgt : Int)) (kt : x < y → AW md d scr Q tgt ls st h k) (kf : ¬ (x < y) → AW md d scr Q (pc + 3) ls st h k) : AW md d scr Q pc ls (.inl y :: .inl x :: st) h k := by
  intro p l e R s m args below meth c b B D ca H locs lc Qw C hlen hH hL hst RH
  have hy : rg y := ok_hd hst
  have hx : rg x := ok_hd (ok_tl hst)
  have hi := i_lt hx hy
  have hst2 := ok_tl (ok_tl hst)
  by_cases hc : x < y
  · exact lv_icmp_lt C.1 C.2.1 hd ht (fun _ => kt hc p l e R s m args below meth c b B D ca H locs lc Qw C hlen hH hL hst2 RH) (fun q => absurd (hi.mpr hc) q)
  · exact lv_icmp_lt C.1 C.2.1 hd ht (fun q => absurd (hi.mp q) hc) (fun _ => kf hc p l e R s m args below meth c b B D ca H locs lc Qw C hlen hH hL hst2 RH)
theorem aw_if_lt {x off : Int} {tgt : Nat} (hd : decode md.2.1 pc = .ok (.ifCond .lt off, 3)) (ht : (pc : Int) + off = (tgt : Int)) (kt : x < 0 → AW md d scr Q tgt ls st h k) (kf : ¬ (x < 0) → AW md d scr Q (pc + 3) ls st h k) : AW md d scr Q pc ls (.inl x :: st) h k := by
  intro p l e R s m args below meth c b B D ca H locs lc Qw C hlen hH hL hst RH
  have hx : rg x := ok_hd hst
  have hi := i_lt hx rg0
  have hst2 := ok_tl hst
  by_cases hc : x < 0
  · exact lv_if_lt C.1 C.2.1 hd ht (fun _ => kt hc p l e R s m args below meth c b B D ca H locs lc Qw C hlen hH hL hst2 RH) (fun q => absurd (hi.mpr hc) q)
  · exact lv_if_lt C.1 C.2.1 hd ht (fun q => absurd (hi.mp q) hc) (fun _ => kf hc p l e R s m args below meth c b B D ca H locs lc Qw C hlen hH hL hst2 RH)
theorem aw_icmp_ge {x y off : Int} {tgt : Nat} (hd : decode md.2.1 pc = .ok (.if_icmp .ge off, 3)) (ht : (pc : Int) + off = (tgt : Int)) (kt : y ≤ x → AW md d scr Q tgt ls st h k) (kf : ¬ (y ≤ x) → AW md d scr Q (pc + 3) ls st h k) : AW md d scr Q pc ls (.inl y :: .inl x :: st) h k := by
  intro p l e R s m args below meth c b B D ca H locs lc Qw C hlen hH hL hst RH
  have hy : rg y := ok_hd hst
  have hx : rg x := ok_hd (ok_tl hst)
  have hi := i_le hy hx
  have hst2 := ok_tl (ok_tl hst)
  by_cases hc : y ≤ x
  · exact lv_icmp_ge C.1 C.2.1 hd ht (fun _ => kt hc p l e R s m args below meth c b B D ca H locs lc Qw C hlen hH hL hst2 RH) (fun q => absurd (hi.mpr hc) q)
  · exact lv_icmp_ge C.1 C.2.1 hd ht (fun q => absurd (hi.mp q) hc) (fun _ => kf hc p l e R s m args below meth c b B D ca H locs lc Qw C hlen hH hL hst2 RH)
theorem aw_if_ge {x off : Int} {tgt : Nat} (hd : decode md.2.1 pc = .ok (.ifCond .ge off, 3)) (ht : (pc : Int) + off = (tgt : Int)) (kt : 0 ≤ x → AW md d scr Q tgt ls st h k) (kf : ¬ (0 ≤ x) → AW md d scr Q (pc + 3) ls st h k) : AW md d scr Q pc ls (.inl x :: st) h k := by
  intro p l e R s m args below meth c b B D ca H locs lc Qw C hlen hH hL hst RH
  have hx : rg x := ok_hd hst
  have hi := i_le rg0 hx
  have hst2 := ok_tl hst
  by_cases hc : 0 ≤ x
  · exact lv_if_ge C.1 C.2.1 hd ht (fun _ => kt hc p l e R s m args below meth c b B D ca H locs lc Qw C hlen hH hL hst2 RH) (fun q => absurd (hi.mpr hc) q)
  · exact lv_if_ge C.1 C.2.1 hd ht (fun q => absurd (hi.mp q) hc) (fun _ => kf hc p l e R s m args below meth c b B D ca H locs lc Qw C hlen hH hL hst2 RH)
theorem aw_icmp_gt {x y off : Int} {tgt : Nat} (hd : decode md.2.1 pc = .ok (.if_icmp .gt off, 3)) (ht : (pc : Int) + off = (tgt : Int)) (kt : y < x → AW md d scr Q tgt ls st h k) (kf : ¬ (y < x) → AW md d scr Q (pc + 3) ls st h k) : AW md d scr Q pc ls (.inl y :: .inl x :: st) h k := by
  intro p l e R s m args below meth c b B D ca H locs lc Qw C hlen hH hL hst RH
  have hy : rg y := ok_hd hst
  have hx : rg x := ok_hd (ok_tl hst)
  have hi := i_lt hy hx
  have hst2 := ok_tl (ok_tl hst)
  by_cases hc : y < x
  · exact lv_icmp_gt C.1 C.2.1 hd ht (fun _ => kt hc p l e R s m args below meth c b B D ca H locs lc Qw C hlen hH hL hst2 RH) (fun q => absurd (hi.mpr hc) q)
  · exact lv_icmp_gt C.1 C.2.1 hd ht (fun q => absurd (hi.mp q) hc) (fun _ => kf hc p l e R s m args below meth c b B D ca H locs lc Qw C hlen hH hL hst2 RH)
theorem aw_if_gt {x off : Int} {tgt : Nat} (hd : decode md.2.1 pc = .ok (.ifCond .gt off, 3)) (ht : (pc : Int) + off = (tgt : Int)) (kt : 0 < x → AW md d scr Q tgt ls st h k) (kf : ¬ (0 < x) → AW md d scr Q (pc + 3) ls st h k) : AW md d scr Q pc ls (.inl x :: st) h k := by
  intro p l e R s m args below meth c b B D ca H locs lc Qw C hlen hH hL hst RH
  have hx : rg x := ok_hd hst
  have hi := i_lt rg0 hx
  have hst2 := ok_tl hst
  by_cases hc : 0 < x
  · exact lv_if_gt C.1 C.2.1 hd ht (fun _ => kt hc p l e R s m args below meth c b B D ca H locs lc Qw C hlen hH hL hst2 RH) (fun q => absurd (hi.mpr hc) q)
  · exact lv_if_gt C.1 C.2.1 hd ht (fun q => absurd (hi.mp q) hc) (fun _ => kf hc p l e R s m args below meth c b B D ca H locs lc Qw C hlen hH hL hst2 RH)
theorem aw_icmp_le {x y off : Int} {tgt : Nat} (hd : decode md.2.1 pc = .ok (.if_icmp .le off, 3)) (ht : (pc : Int) + off = (tgt : Int)) (kt : x ≤ y → AW md d scr Q tgt ls st h k) (kf : ¬ (x ≤ y) → AW md d scr Q (pc + 3) ls st h k) : AW md d scr Q pc ls (.inl y :: .inl x :: st) h k := by
  intro p l e R s m args below meth c b B D ca H locs lc Qw C hlen hH hL hst RH
  have hy : rg y := ok_hd hst
  have hx : rg x := ok_hd (ok_tl hst)
  have hi := i_le hx hy
  have hst2 := ok_tl (ok_tl hst)
  by_cases hc : x ≤ y
  · exact lv_icmp_le C.1 C.2.1 hd ht (fun _ => kt hc p l e R s m args below meth c b B D ca H locs lc Qw C hlen hH hL hst2 RH) (fun q => absurd (hi.mpr hc) q)
  · exact lv_icmp_le C.1 C.2.1 hd ht (fun q => absurd (hi.mp q) hc) (fun _ => kf hc p l e R s m args below meth c b B D ca H locs lc Qw C hlen hH hL hst2 RH)
theorem aw_if_le {x off : Int} {tgt : Nat} (hd : decode md.2.1 pc = .ok (.ifCond .le off, 3)) (ht : (pc : Int) + off = (tgt : Int)) (kt : x ≤ 0 → AW md d scr Q tgt ls st h k) (kf : ¬ (x ≤ 0) → AW md d scr Q (pc + 3) ls st h k) : AW md d scr Q pc ls (.inl x :: st) h k := by
  intro p l e R s m args below meth c b B D ca H locs lc Qw C hlen hH hL hst RH
  have hx : rg x := ok_hd hst
  have hi := i_le hx rg0
  have hst2 := ok_tl hst
  by_cases hc : x ≤ 0
  · exact lv_if_le C.1 C.2.1 hd ht (fun _ => kt hc p l e R s m args below meth c b B D ca H locs lc Qw C hlen hH hL hst2 RH) (fun q => absurd (hi.mpr hc) q)
  · exact lv_if_le C.1 C.2.1 hd ht (fun q => absurd (hi.mp q) hc) (fun _ => kf hc p l e R s m args below meth c b B D ca H locs lc Qw C hlen hH hL hst2 RH)
theorem aw_ifnull {r : Option Nat} {off : Int} {tgt : Nat} (hd : decode md.2.1 pc = .ok (.ifnull off, 3)) (ht : (pc : Int) + off = (tgt : Int)) (kt : r = none → AW md d scr Q tgt ls st h k) (kf : r ≠ none → AW md d scr Q (pc + 3) ls st h k) : AW md d scr Q pc ls (.inr r :: st) h k := by
  intro p l e R s m args below meth c b B D ca H locs lc Qw C hlen hH hL hst RH
  cases r with
  | none => exact lv_ifnullN C.1 C.2.1 hd ht (kt rfl p l e R s m args below meth c b B D ca H locs lc Qw C hlen hH hL (ok_tl hst) RH)
  | some j => exact lv_ifnull C.1 C.2.1 hd (kf (fun q => by cases q) p l e R s m args below meth c b B D ca H locs lc Qw C hlen hH hL (ok_tl hst) RH)
theorem aw_ifnonnull {r : Option Nat} {off : Int} {tgt : Nat} (hd : decode md.2.1 pc = .ok (.ifnonnull off, 3)) (ht : (pc : Int) + off = (tgt : Int)) (kt : r ≠ none → AW md d scr Q tgt ls st h k) (kf : r = none → AW md d scr Q (pc + 3) ls st h k) : AW md d scr Q pc ls (.inr r :: st) h k := by
  intro p l e R s m args below meth c b B D ca H locs lc Qw C hlen hH hL hst RH
  cases r with
  | none => exact lv_ifnonnullN C.1 C.2.1 hd (kf rfl p l e R s m args below meth c b B D ca H locs lc Qw C hlen hH hL (ok_tl hst) RH)
  | some j => exact lv_ifnonnull C.1 C.2.1 hd ht (kt (fun q => by cases q) p l e R s m args below meth c b B D ca H locs lc Qw C hlen hH hL (ok_tl hst) RH)
theorem aw_tblOut {dflt lo hi x : Int} {offs : Array Int} {len tgt : Nat} (hd : decode md.2.1 pc = .ok (.tableswitch dflt lo hi offs, len)) (hx : x < lo ∨ hi < x) (ht : (pc : Int) + dflt = (tgt : Int)) (kk : AW md d scr Q tgt ls st h k) : AW md d scr Q pc ls (.inl x :: st) h k := by
  intro p l e R s m args below meth c b B D ca H locs lc Qw C hlen hH hL hst RH
  exact lv_tableOut C.1 C.2.1 hd (by rw [ti (ok_hd hst)]; exact hx) ht (kk p l e R s m args below meth c b B D ca H locs lc Qw C hlen hH hL (ok_tl hst) RH)
theorem aw_tblIn {dflt lo hi x off : Int} {offs : Array Int} {len tgt : Nat} (hd : decode md.2.1 pc = .ok (.tableswitch dflt lo hi offs, len)) (h1 : lo ≤ x) (h2 : x ≤ hi) (ho : offs[(x - lo).toNat]? = some off) (ht : (pc : Int) + off = (tgt : Int)) (kk : AW md d scr Q tgt ls st h k) : AW md d scr Q pc ls (.inl x :: st) h k := by
  intro p l e R s m args below meth c b B D ca H locs lc Qw C hlen hH hL hst RH
  have hx : (Int32.ofInt x).toInt = x := ti (ok_hd hst)
  exact lv_tableIn C.1 C.2.1 hd (by rw [hx]; omega) (by rw [hx]; omega) (by rw [hx]; exact ho) ht (kk p l e R s m args below meth c b B D ca H locs lc Qw C hlen hH hL (ok_tl hst) RH)
theorem aw_lookup {dflt x off : Int} {ps : Array (Int × Int)} {len tgt : Nat} (hd : decode md.2.1 pc = .ok (.lookupswitch dflt ps, len)) (hp : (ps.toList.zip (ps.toList.drop 1)).all (fun (a, next) => a.1 < next.1) = true) (ho : Op.lookupswitch.offset ps.toList dflt x = off) (ht : (pc : Int) + off = (tgt : Int)) (kk : AW md d scr Q tgt ls st h k) : AW md d scr Q pc ls (.inl x :: st) h k := by
  intro p l e R s m args below meth c b B D ca H locs lc Qw C hlen hH hL hst RH
  have hx : (Int32.ofInt x).toInt = x := ti (ok_hd hst)
  exact lv_lookup C.1 C.2.1 hd hp (by rw [hx]; exact ho) ht (kk p l e R s m args below meth c b B D ca H locs lc Qw C hlen hH hL (ok_tl hst) RH)
theorem aw_okH (kk : okH h → AW md d scr Q pc ls st h k) : AW md d scr Q pc ls st h k := by
  intro p l e R s m args below meth c b B D ca H locs lc Qw C hlen hH hL hst RH
  exact kk hH.1.2.2 p l e R s m args below meth c b B D ca H locs lc Qw C hlen hH hL hst RH
theorem aw_okl (kk : (∀ (i : Nat) (v : AV), ls[i]? = some (some v) → ok v) → AW md d scr Q pc ls st h k) : AW md d scr Q pc ls st h k := by
  intro p l e R s m args below meth c b B D ca H locs lc Qw C hlen hH hL hst RH
  exact kk hL.2 p l e R s m args below meth c b B D ca H locs lc Qw C hlen hH hL hst RH
end RU
end
section
section HE
variable {md : MD} {d : Nat} {scr : Option (Nat × (Nat → Int))} {Q : Option Int → AH → Prop} {pc : Nat} {ls : List (Option AV)} {st : List AV} {h : AH} {k : Nat × Nat}
theorem okH_pos {h : AH} (ho : okH h) {j : Nat} {x : Nat × Nat} (hx : hk h j = x) (hn : x ≠ (9, 0)) : ∃ i, j = i + 1 ∧ i < h.1 := by
  cases j with
  | zero => exact absurd (hx.symm.trans ho.2.1) hn
  | succ i =>
    refine ⟨i, rfl, ?_⟩
    rcases Nat.lt_or_ge h.1 (i + 1) with q | q
    · exact absurd (hx.symm.trans (ho.2.2.1 _ q)) hn
    · omega
theorem enc_o {b B : Nat} {ca : Nat → ClassId} {h : AH} {j ci : Nat} (hx : hk h j = (0, ci)) : enc b B ca h j = .inr (ci, (List.range (cN ci)).map (fvl b B h j ci)) := by simp [enc, hx]
theorem enc_1 {b B : Nat} {ca : Nat → ClassId} {h : AH} {j n : Nat} (hx : hk h j = (1, n)) : enc b B ca h j = .inl (ca 1, n, .inl fun k => Int32.ofInt (hi h j k)) := by simp [enc, hx]
theorem enc_2 {b B : Nat} {ca : Nat → ClassId} {h : AH} {j n : Nat} (hx : hk h j = (2, n)) : enc b B ca h j = .inl (ca 2, n, .inl fun k => Int32.ofInt (hi h j k)) := by simp [enc, hx]
theorem enc_3 {b B : Nat} {ca : Nat → ClassId} {h : AH} {j n : Nat} (hx : hk h j = (3, n)) : enc b B ca h j = .inl (ca 3, n, .inl fun k => Int32.ofInt (hi h j k)) := by simp [enc, hx]
theorem enc_4 {b B : Nat} {ca : Nat → ClassId} {h : AH} {j n : Nat} (hx : hk h j = (4, n)) : enc b B ca h j = .inl (ca 4, n, .inr (.inr (.inr (.inr fun k => (hr h j k).map (az b B))))) := by simp [enc, hx]
theorem fs_at {n k : Nat} {f : Nat → Value} (hk : k < n) : ((List.range n).map f)[k]? = some (f k) := by simp [hk]
theorem aw_getv {idx ci kf j : Nat} (hd : decode md.2.1 pc = .ok (.getfield idx, 3)) (hl : Cond.fieldLink md.1.cls idx (cU ci kf).1 (cU ci kf).2.1 (cU ci kf).2.2.1 ∈ tbG) (hkf : kf < cN ci) (hx : hk h j = (0, ci)) {v : AV} (hv : ∀ b B, fvl b B h j ci kf = cv b B v) (hok : okH h → ok v)
    (kk : AW md d scr Q (pc + 3) ls (v :: st) h k) : AW md d scr Q pc ls (.inr (some j) :: st) h k := by
  intro p l e R s m args below meth c b B D ca H locs lc Qw C hlen hH hL hst RH
  obtain ⟨hsz, hP, ho⟩ := hH.1
  obtain ⟨i, rfl, hj⟩ := okH_pos ho hx (by intro q; cases q)
  have hci := ho.2.2.2 _ _ hx
  have he := wso_at (b := b) (B := B) (ca := ca) hj
  rw [enc_o hx] at he
  refine va_get (D := D) (v := cv b B v) C.1 C.2.1 C.2.2.2.2.1 (cl_words hci) C.2.2.2.1 C.2.2.2.2.2.2.1 hP i he (cl_at hci) kf hkf (C.2.2.2.2.1 _ hl) (fun _ h9 => h9) ?_ hd ?_
  · rw [fs_at hkf, hv]
  · exact kk p l e R s m args below meth c b B D ca H locs lc Qw C hlen hH hL (ok_of (hok ho) (ok_tl hst)) RH
theorem aw_geti {idx ci kf j : Nat} (hd : decode md.2.1 pc = .ok (.getfield idx, 3)) (hl : Cond.fieldLink md.1.cls idx (cU ci kf).1 (cU ci kf).2.1 (cU ci kf).2.2.1 ∈ tbG) (hkf : kf < cN ci) (hT : isR (cT ci kf) = false) (hx : hk h j = (0, ci))
    (kk : AW md d scr Q (pc + 3) ls (.inl (hi h j kf) :: st) h k) : AW md d scr Q pc ls (.inr (some j) :: st) h k :=
  aw_getv (v := .inl (hi h j kf)) hd hl hkf hx (fun b B => by simp [fvl, hT, cv]) (fun ho => ho.1 j kf) kk
theorem aw_getr {idx ci kf j : Nat} (hd : decode md.2.1 pc = .ok (.getfield idx, 3)) (hl : Cond.fieldLink md.1.cls idx (cU ci kf).1 (cU ci kf).2.1 (cU ci kf).2.2.1 ∈ tbG) (hkf : kf < cN ci) (hT : isR (cT ci kf) = true) (hx : hk h j = (0, ci)) {r : Option Nat} (hr0 : hr h j kf = r)
    (kk : AW md d scr Q (pc + 3) ls (.inr r :: st) h k) : AW md d scr Q pc ls (.inr (some j) :: st) h k :=
  aw_getv (v := .inr r) hd hl hkf hx (fun b B => by simp [fvl, hT, cv, hr0]) (fun _ => trivial) kk
theorem okH_up {h : AH} {j : Nat} {x v : Int} (ho : okH h) (hv : rg v) : okH (up h j x v) := by
  refine ⟨fun a b => ?_, ho.2.1, ho.2.2.1, ho.2.2.2⟩
  rw [hi_up]
  split
  · exact hv
  · exact ho.1 a b
theorem okH_ur {h : AH} {j : Nat} {x : Int} {v : Option Nat} (ho : okH h) : okH (ur h j x v) := ⟨ho.1, ho.2.1, ho.2.2.1, ho.2.2.2⟩
theorem enc_up {b B : Nat} {ca : Nat → ClassId} {h : AH} {j : Nat} {x v : Int} : ∀ i, i ≠ j → enc b B ca (up h j x v) i = enc b B ca h i := by
  intro i hi'
  refine enc_cong rfl (fun _ => rfl) (fun k => ?_)
  rw [hi_up, if_neg (fun q => hi' q.1)]
theorem enc_ur {b B : Nat} {ca : Nat → ClassId} {h : AH} {j : Nat} {x : Int} {v : Option Nat} : ∀ i, i ≠ j → enc b B ca (ur h j x v) i = enc b B ca h i := by
  intro i hi'
  refine enc_cong rfl (fun k => ?_) (fun _ => rfl)
  rw [hr_ur, if_neg (fun q => hi' q.1)]
theorem fs_set {n k : Nat} {f g : Nat → Value} (hk : k < n) (hg : ∀ i, i ≠ k → g i = f i) : ((List.range n).map f).set k (g k) = (List.range n).map g := by
  apply List.ext_getElem?
  intro i
  by_cases hik : i = k
  · subst hik
    rw [List.getElem?_set_self (by simpa using hk), fs_at hk]
  · rw [List.getElem?_set_ne (Ne.symm hik)]
    by_cases hi : i < n
    · rw [fs_at hi, fs_at hi, hg i hik]
    · rw [List.getElem?_eq_none (by simp; omega), List.getElem?_eq_none (by simp; omega)]
/-- a field is written: h' is h with another value at (j, kf) -/
theorem aw_putv {idx ci kf j : Nat} {v : AV} {h' : AH} (hd : decode md.2.1 pc = .ok (.putfield idx, 3)) (hl : Cond.fieldLink md.1.cls idx (cU ci kf).1 (cU ci kf).2.1 (cU ci kf).2.2.1 ∈ tbG) (hkf : kf < cN ci) (hx : hk h j = (0, ci))
    (hfin : (cU ci kf).2.2.2 = false ∨ ((cU ci kf).2.2.2 = true ∧ md.1.name = "<init>" ∧ (cU ci kf).1 = md.1.cls)) (hnar : ∀ b B, narrow (cT ci kf) (cv b B v) = cv b B v) (hfit : ∀ b B, fits (cT ci kf) (cv b B v) = true)
    (hn' : h'.1 = h.1) (hk' : hk h' = hk h) (ho' : okH h → okH h') (he' : ∀ b B ca i, i ≠ j → enc b B ca h' i = enc b B ca h i) (hv : ∀ b B, fvl b B h' j ci kf = cv b B v) (hv' : ∀ b B i, i ≠ kf → fvl b B h' j ci i = fvl b B h j ci i)
    (kk : AW md d scr Q (pc + 3) ls st h' k) : AW md d scr Q pc ls (v :: .inr (some j) :: st) h k := by
  intro p l e R s m args below meth c b B D ca H locs lc Qw C hlen hH hL hst RH
  obtain ⟨⟨hsz, hP, ho⟩, hS⟩ := hH
  obtain ⟨i, rfl, hj⟩ := okH_pos ho hx (by intro q; cases q)
  have hci := ho.2.2.2 _ _ hx
  have he := wso_at (b := b) (B := B) (ca := ca) hj
  rw [enc_o hx] at he
  have hl' : kf < ((List.range (cN ci)).map (fvl b B h (i + 1) ci)).length := by simpa using hkf
  have key : ∀ (H1 : Heap) (locs1 : List Loc), va_P D vwCl ((wso b B ca h).set i (B + i, .inr (ci, ((List.range (cN ci)).map (fvl b B h (i + 1) ci)).set kf (cv b B v)))) H1 → va_D (fun q => B ≤ q) ((wso b B ca h).set i (B + i, .inr (ci, ((List.range (cN ci)).map (fvl b B h (i + 1) ci)).set kf (cv b B v)))) → va_S (fun q => B ≤ q) s.heap H1 locs1 → H1.size = H.size → W p l e R s m args below meth c H1 locs1 k.1 k.2 Qw (F0 m (pc + 3) lc (st.map (cv b B))) := by
    intro H1 locs1 h1 _ h3 h4
    have e1 : enc b B ca h' (i + 1) = .inr (ci, ((List.range (cN ci)).map (fvl b B h (i + 1) ci)).set kf (cv b B v)) := by
      rw [enc_o (by rw [hk']; exact hx), ← hv b B, fs_set hkf (hv' b B)]
    rw [← e1, wso_set hj hn' (he' b B ca)] at h1
    exact kk p l e R s m args below meth c b B D ca H1 locs1 lc Qw C hlen ⟨⟨by rw [h4, hn']; exact hsz, h1, ho' ho⟩, h3⟩ hL (ok_tl (ok_tl hst)) RH
  have hsize : ∀ (H1 : Heap) (X : va_W), va_P D vwCl X H1 → True := fun _ _ _ => trivial
  obtain ⟨r, h1, cell, q1, q2, q3, q4⟩ := hP i _ he
  have hr : r = (cR ci, cU ci, cN ci) := Option.some.inj (h1.symm.trans (cl_at hci))
  subst hr
  have hK := C.2.2.2.2.2.2.1
  have hts := C.2.2.2.2.1
  have hap := va_apart (own := md.1.cls) hts (cl_words hci) (cT ci) (cl_ty hci) (cl_nm hci) hK (cl_at hci)
  obtain ⟨hSl, hfc, kC, hkC, hkind⟩ := hK.1 ci _ (cl_at hci)
  obtain ⟨cf, kx, fi, f, hfi, hsl⟩ := hSl kf hkf
  have hlay := hts _ (cl_words hci _ (u_in_lay hkf))
  unfold u_lay at hlay
  have hst' := (u_facts hfc hkC (u_lays hts (cl_words hci) hkf) hfi).1
  rcases hfin with hfin | ⟨hfin, hin2, hdecl⟩
  · rw [if_neg (by rw [hfin]; decide)] at hlay
    have h6 := u_store hfc hkC hkind hlay hfi (cl_ty hci kf hkf) (hnar b B) (hfit b B)
    refine W.putK C.1 C.2.1 (f := f) ⟨C.2.2.2.1, hts _ hl, ⟨_, _, _, hfi⟩, hst'⟩ (by rw [q2]; exact h6) q1 q3 (by rw [hsl]; exact k2_hasslot (q4 kf hkf)) rfl rfl hd fun H' e1 e2 e3 => ?_
    rw [hsl] at e1 ⊢
    exact key H' _ (hP.set wso_D he ⟨_, cl_at hci, t_OB.to (V := updV (vp_V _) kf _) ⟨_, e1, q2, q3, t_set q4 hap hkf _⟩ (fun j _ => vp_updV_set hl' _ j)⟩ e3) (wso_D.set he) (hS.put e2 e3 (wso_D.2 i _ he)) e2
  · rw [if_pos hfin] at hlay
    have hcf : m.cls = cf := by
      obtain ⟨_, _, c', _, _, _, -, -, hf', -, -, -, hown2, -⟩ := Cond.laysFinal_spec hlay
      have e1 : c' = cf := by have := hfi.symm.trans hf'; simp at this; exact this.1.symm
      rw [hdecl] at hown2
      rw [← e1]; exact Option.some.inj (C.2.2.2.1.symm.trans hown2)
    have h6 := u_fits hfc hkC hkind (Or.inr hlay) hfi (cl_ty hci kf hkf) (hnar b B) (hfit b B)
    refine W.putFinK C.1 C.2.1 C.2.2.2.1 (hts _ hl) hfi hst' hcf (C.2.2.2.2.2.1.trans hin2) (by rw [q2]; exact h6) q1 q3 (by rw [hsl]; exact k2_hasslot (q4 kf hkf)) rfl rfl hd fun H' e1 e2 e3 => ?_
    rw [hsl] at e1 ⊢
    exact key H' _ (hP.set wso_D he ⟨_, cl_at hci, t_OB.to (V := updV (vp_V _) kf _) ⟨_, e1, q2, q3, t_set q4 hap hkf _⟩ (fun j _ => vp_updV_set hl' _ j)⟩ e3) (wso_D.set he) (hS.put e2 e3 (wso_D.2 i _ he)) e2
theorem fvl_up {b B : Nat} {h : AH} {j ci kf : Nat} {v : Int} : ∀ i, i ≠ kf → fvl b B (up h j kf v) j ci i = fvl b B h j ci i := by
  intro i hi'
  have hne : ¬ ((i : Int) = (kf : Int)) := fun q => hi' (by omega)
  simp [fvl, hr_up, hi_up, hne, hi']
theorem fvl_ur {b B : Nat} {h : AH} {j ci kf : Nat} {v : Option Nat} : ∀ i, i ≠ kf → fvl b B (ur h j kf v) j ci i = fvl b B h j ci i := by
  intro i hi'
  have hne : ¬ ((i : Int) = (kf : Int)) := fun q => hi' (by omega)
  simp [fvl, hi_ur, hr_ur, hne, hi']
theorem nar_i {t : FieldType} {v : Int} (hv : okr (some t) v) (b B : Nat) : narrow t (cv b B (.inl v)) = cv b B (.inl v) ∧ fits t (cv b B (.inl v)) = true := by
  cases t with
  | int => exact ⟨rfl, rfl⟩
  | boolean =>
    rcases hv with rfl | rfl
    · exact ⟨rfl, rfl⟩
    · exact ⟨rfl, rfl⟩
  | char =>
    obtain ⟨n, rfl⟩ : ∃ n : Nat, v = (n : Int) := ⟨v.toNat, by have := hv.1; omega⟩
    have h2 := hv.2
    exact pk_charN (by omega)
  | _ => exact absurd hv (by simp [okr])
theorem okr_rg {t : Option FieldType} {v : Int} (hv : okr t v) : rg v := by
  match t, hv with
  | some .int, hv => exact hv
  | some .boolean, hv => rcases hv with rfl | rfl <;> decide
  | some .char, hv => exact ⟨by have := hv.1; omega, by have := hv.2; omega⟩
theorem aw_puti {idx ci kf j : Nat} {v : Int} (hd : decode md.2.1 pc = .ok (.putfield idx, 3)) (hl : Cond.fieldLink md.1.cls idx (cU ci kf).1 (cU ci kf).2.1 (cU ci kf).2.2.1 ∈ tbG) (hkf : kf < cN ci) (hT : isR (cT ci kf) = false) (hfin : (cU ci kf).2.2.2 = false) (hx : hk h j = (0, ci)) (hv : okr (some (cT ci kf)) v)
    (kk : AW md d scr Q (pc + 3) ls st (up h j kf v) k) : AW md d scr Q pc ls (.inl v :: .inr (some j) :: st) h k :=
  aw_putv (v := .inl v) (h' := up h j kf v) hd hl hkf hx (Or.inl hfin) (fun b B => (nar_i hv b B).1) (fun b B => (nar_i hv b B).2) rfl rfl (fun ho => okH_up ho (okr_rg hv)) (fun b B ca => enc_up)
    (fun b B => by simp [fvl, hT, hi_up, cv]) (fun b B => fvl_up) kk
theorem aw_putrF {idx ci kf j : Nat} {r : Nat} (hd : decode md.2.1 pc = .ok (.putfield idx, 3)) (hl : Cond.fieldLink md.1.cls idx (cU ci kf).1 (cU ci kf).2.1 (cU ci kf).2.2.1 ∈ tbG) (hkf : kf < cN ci) (hT : isR (cT ci kf) = true) (hfin : (cU ci kf).2.2.2 = true ∧ md.1.name = "<init>" ∧ (cU ci kf).1 = md.1.cls) (hx : hk h j = (0, ci))
    (kk : AW md d scr Q (pc + 3) ls st (ur h j kf (some r)) k) : AW md d scr Q pc ls (.inr (some r) :: .inr (some j) :: st) h k := by
  refine aw_putv (v := .inr (some r)) (h' := ur h j kf (some r)) hd hl hkf hx (Or.inr hfin) (fun b B => ?_) (fun b B => ?_) rfl rfl (fun ho => okH_ur ho) (fun b B ca => enc_ur) (fun b B => by simp [fvl, hT, hr_ur, cv]) (fun b B => fvl_ur) kk
  · generalize cT ci kf = t at hT
    cases t <;> simp_all [isR] <;> rfl
  · generalize cT ci kf = t at hT
    cases t <;> simp_all [isR] <;> rfl
end HE
end
section
section AR
variable {md : MD} {d : Nat} {scr : Option (Nat × (Nat → Int))} {Q : Option Int → AH → Prop} {pc : Nat} {ls : List (Option AV)} {st : List AV} {h : AH} {k : Nat × Nat}
theorem cl_nat {x : Int} (hx : rg x) (h0 : 0 ≤ x) : (Int32.ofInt x).toNatClampNeg = x.toNat := by
  show (Int32.ofInt x).toInt.toNat = x.toNat
  rw [ti hx]
theorem in_of {x : Int} {n : Nat} (hx : rg x) (h0 : 0 ≤ x) (h1 : x < n) : vp_in (Int32.ofInt x) n := by
  unfold vp_in
  rw [cl_nat hx h0]
  intro q
  rcases q with q | q
  · have := (i_lt hx rg0).mp q
    omega
  · omega
theorem to_nat {x : Int} (h0 : 0 ≤ x) : ((x.toNat : Nat) : Int) = x := Int.toNat_of_nonneg h0
theorem aw_iaload {j n : Nat} {x : Int} (hd : decode md.2.1 pc = .ok (.iaload, 1)) (hx : hk h j = (1, n)) (h0 : 0 ≤ x) (h1 : x < n) (kk : AW md d scr Q (pc + 1) ls (.inl (hi h j x) :: st) h k) : AW md d scr Q pc ls (.inl x :: .inr (some j) :: st) h k := by
  intro p l e R s m args below meth c b B D ca H locs lc Qw C hlen hH hL hst RH
  obtain ⟨hsz, hP, ho⟩ := hH.1
  obtain ⟨i, rfl, hj⟩ := okH_pos ho hx (by intro q; cases q)
  have hxr : rg x := ok_hd hst
  have he := wso_at (b := b) (B := B) (ca := ca) hj
  rw [enc_1 hx] at he
  refine va_iald C.1 C.2.1 C.2.2.2.2.2.2.1 hP i 0 he rfl (in_of hxr h0 h1) hd ?_
  rw [cl_nat hxr h0]
  show W p l e R s m args below meth c H locs k.1 k.2 Qw (F0 m (pc + 1) lc (.int (Int32.ofInt (hi h (i + 1) ((x.toNat : Nat) : Int))) :: st.map (cv b B)))
  rw [to_nat h0]
  exact kk p l e R s m args below meth c b B D ca H locs lc Qw C hlen hH hL (ok_of (ho.1 _ _) (ok_tl (ok_tl hst))) RH
theorem aw_baload {j n : Nat} {x : Int} (hd : decode md.2.1 pc = .ok (.baload, 1)) (hx : hk h j = (2, n)) (h0 : 0 ≤ x) (h1 : x < n) (kk : AW md d scr Q (pc + 1) ls (.inl (hi h j x) :: st) h k) : AW md d scr Q pc ls (.inl x :: .inr (some j) :: st) h k := by
  intro p l e R s m args below meth c b B D ca H locs lc Qw C hlen hH hL hst RH
  obtain ⟨hsz, hP, ho⟩ := hH.1
  obtain ⟨i, rfl, hj⟩ := okH_pos ho hx (by intro q; cases q)
  have hxr : rg x := ok_hd hst
  have he := wso_at (b := b) (B := B) (ca := ca) hj
  rw [enc_2 hx] at he
  refine va_zald C.1 C.2.1 C.2.2.2.2.2.2.1 hP i 1 he rfl (in_of hxr h0 h1) hd ?_
  rw [cl_nat hxr h0]
  show W p l e R s m args below meth c H locs k.1 k.2 Qw (F0 m (pc + 1) lc (.int (Int32.ofInt (hi h (i + 1) ((x.toNat : Nat) : Int))) :: st.map (cv b B)))
  rw [to_nat h0]
  exact kk p l e R s m args below meth c b B D ca H locs lc Qw C hlen hH hL (ok_of (ho.1 _ _) (ok_tl (ok_tl hst))) RH
theorem aw_caload {j n : Nat} {x : Int} (hd : decode md.2.1 pc = .ok (.caload, 1)) (hx : hk h j = (3, n)) (h0 : 0 ≤ x) (h1 : x < n) (kk : AW md d scr Q (pc + 1) ls (.inl (hi h j x) :: st) h k) : AW md d scr Q pc ls (.inl x :: .inr (some j) :: st) h k := by
  intro p l e R s m args below meth c b B D ca H locs lc Qw C hlen hH hL hst RH
  obtain ⟨hsz, hP, ho⟩ := hH.1
  obtain ⟨i, rfl, hj⟩ := okH_pos ho hx (by intro q; cases q)
  have hxr : rg x := ok_hd hst
  have he := wso_at (b := b) (B := B) (ca := ca) hj
  rw [enc_3 hx] at he
  refine va_cald C.1 C.2.1 C.2.2.2.2.2.2.1 hP i 2 he rfl (in_of hxr h0 h1) hd ?_
  rw [cl_nat hxr h0]
  show W p l e R s m args below meth c H locs k.1 k.2 Qw (F0 m (pc + 1) lc (.int (Int32.ofInt (hi h (i + 1) ((x.toNat : Nat) : Int))) :: st.map (cv b B)))
  rw [to_nat h0]
  exact kk p l e R s m args below meth c b B D ca H locs lc Qw C hlen hH hL (ok_of (ho.1 _ _) (ok_tl (ok_tl hst))) RH
theorem aw_aaload {j n : Nat} {x : Int} (hd : decode md.2.1 pc = .ok (.aaload, 1)) (hx : hk h j = (4, n)) (h0 : 0 ≤ x) (h1 : x < n) (kk : AW md d scr Q (pc + 1) ls (.inr (hr h j x) :: st) h k) : AW md d scr Q pc ls (.inl x :: .inr (some j) :: st) h k := by
  intro p l e R s m args below meth c b B D ca H locs lc Qw C hlen hH hL hst RH
  obtain ⟨hsz, hP, ho⟩ := hH.1
  obtain ⟨i, rfl, hj⟩ := okH_pos ho hx (by intro q; cases q)
  have hxr : rg x := ok_hd hst
  have he := wso_at (b := b) (B := B) (ca := ca) hj
  rw [enc_4 hx] at he
  refine va_aldq C.1 C.2.1 C.2.2.2.2.2.2.1 hP i 3 he rfl (in_of hxr h0 h1) hd ?_
  rw [cl_nat hxr h0]
  show W p l e R s m args below meth c H locs k.1 k.2 Qw (F0 m (pc + 1) lc (va_rf ((hr h (i + 1) ((x.toNat : Nat) : Int)).map (az b B)) :: st.map (cv b B)))
  rw [to_nat h0]
  exact kk p l e R s m args below meth c b B D ca H locs lc Qw C hlen hH hL (ok_of trivial (ok_tl (ok_tl hst))) RH
theorem fn_up {h : AH} {j : Nat} {x v : Int} (h0 : 0 ≤ x) : (fun k : Nat => Int32.ofInt (hi (up h j x v) j k)) = upd (fun k : Nat => Int32.ofInt (hi h j k)) x.toNat (Int32.ofInt v) := by
  funext k
  rw [hi_up]
  unfold upd
  by_cases hk' : k = x.toNat
  · rw [if_pos hk', if_pos ⟨rfl, by omega⟩]
  · rw [if_neg hk', if_neg (fun q => hk' (by have := q.2; omega))]
theorem HR_arr {b B : Nat} {D : va_G} {ca : Nat → ClassId} {H0 H H1 : Heap} {locs : List Loc} {h h' : AH} {i kx : Nat} {cA : ClassId} {a0 a1 : vp_A} (hH : HR b B D ca H0 h H locs) (hj : i < h.1) (he : (wso b B ca h)[i]? = some (B + i, .inl (cA, a0))) (hn : h'.1 = h.1) (henc : ∀ x, x ≠ i + 1 → enc b B ca h' x = enc b B ca h x) (he' : enc b B ca h' (i + 1) = .inl (cA, a1)) (ho' : okH h')
    (e1 : H1[B + i]? = some (vp_cell cA a1)) (z : H1.size = H.size) (oq : ∀ q, q ≠ B + i → H1[q]? = H[q]?) : HR b B D ca H0 h' H1 (locs ++ [⟨B + i, kx⟩]) := by
  obtain ⟨⟨hsz, hP, ho⟩, hS⟩ := hH
  have h1 := hP.set wso_D he (e := .inl (cA, a1)) (H1 := H1) e1 oq
  rw [← he', wso_set hj hn henc] at h1
  exact ⟨⟨by rw [z, hn]; exact hsz, h1, ho'⟩, hS.put z oq (Nat.le_add_right _ _)⟩
theorem aw_iastore {j n : Nat} {x v : Int} (hd : decode md.2.1 pc = .ok (.iastore, 1)) (hx : hk h j = (1, n)) (h0 : 0 ≤ x) (h1 : x < n) (kk : AW md d scr Q (pc + 1) ls st (up h j x v) k) : AW md d scr Q pc ls (.inl v :: .inl x :: .inr (some j) :: st) h k := by
  intro p l e R s m args below meth c b B D ca H locs lc Qw C hlen hH hL hst RH
  obtain ⟨hsz, hP, ho⟩ := hH.1
  obtain ⟨i, rfl, hj⟩ := okH_pos ho hx (by intro q; cases q)
  have hv : rg v := ok_hd hst
  have hxr : rg x := ok_hd (ok_tl hst)
  have he := wso_at (b := b) (B := B) (ca := ca) hj
  rw [enc_1 hx] at he
  have hin := in_of hxr h0 h1
  refine W.iast C.1 C.2.1 (hP i _ he) ((C.2.2.2.2.2.2.1.2 0 _ rfl).1 n (fun q => .int (Int32.ofInt (hi h (i + 1) q)))) (fun q => by cases q) (by show ¬ (_ ∨ (arrV _ _ _).slots.size ≤ _); rw [arrV_size]; exact hin) rfl rfl hd fun H1 e1 z oq => ?_
  refine kk p l e R s m args below meth c b B D ca H1 _ lc Qw C hlen (HR_arr hH hj he rfl enc_up (enc_1 hx) (okH_up ho hv) ?_ z oq) hL (ok_tl (ok_tl (ok_tl hst))) RH
  rw [e1, fn_up h0, ← cl_nat hxr h0]
  rw [vp_cell_i, vp_cell_i, arrV_store]
  congr 2
  funext q
  by_cases hq : q = (Int32.ofInt x).toNatClampNeg
  · subst hq
    simp [updV, upd]
  · simp [updV, upd, hq]
theorem aw_bastore {j n : Nat} {x v : Int} (hd : decode md.2.1 pc = .ok (.bastore, 1)) (hx : hk h j = (2, n)) (h0 : 0 ≤ x) (h1 : x < n) (hv01 : v = 0 ∨ v = 1) (kk : AW md d scr Q (pc + 1) ls st (up h j x v) k) : AW md d scr Q pc ls (.inl v :: .inl x :: .inr (some j) :: st) h k := by
  intro p l e R s m args below meth c b B D ca H locs lc Qw C hlen hH hL hst RH
  obtain ⟨hsz, hP, ho⟩ := hH.1
  obtain ⟨i, rfl, hj⟩ := okH_pos ho hx (by intro q; cases q)
  have hv : rg v := ok_hd hst
  have hxr : rg x := ok_hd (ok_tl hst)
  have he := wso_at (b := b) (B := B) (ca := ca) hj
  rw [enc_2 hx] at he
  have hin := in_of hxr h0 h1
  have hnv : narrow .boolean (.int (Int32.ofInt v)) = .int (Int32.ofInt v) := (nar_i (t := .boolean) (v := v) hv01 b B).1
  refine W.zast C.1 C.2.1 (hP i _ he) ((C.2.2.2.2.2.2.1.2 1 _ rfl).1 n (fun q => .int (Int32.ofInt (hi h (i + 1) q)))) (fun q => by cases q) (by show ¬ (_ ∨ (arrV _ _ _).slots.size ≤ _); rw [arrV_size]; exact hin) rfl rfl hd fun H1 e1 z oq => ?_
  refine kk p l e R s m args below meth c b B D ca H1 _ lc Qw C hlen (HR_arr hH hj he rfl enc_up (enc_2 hx) (okH_up ho hv) ?_ z oq) hL (ok_tl (ok_tl (ok_tl hst))) RH
  rw [e1, fn_up h0, ← cl_nat hxr h0]
  rw [vp_cell_i, vp_cell_i, arrV_store]
  congr 2
  funext q
  by_cases hq : q = (Int32.ofInt x).toNatClampNeg
  · subst hq
    simpa [updV, upd] using hnv
  · simp [updV, upd, hq]
theorem aw_castore {j n : Nat} {x v : Int} (hd : decode md.2.1 pc = .ok (.castore, 1)) (hx : hk h j = (3, n)) (h0 : 0 ≤ x) (h1 : x < n) (hv01 : 0 ≤ v ∧ v < 65536) (kk : AW md d scr Q (pc + 1) ls st (up h j x v) k) : AW md d scr Q pc ls (.inl v :: .inl x :: .inr (some j) :: st) h k := by
  intro p l e R s m args below meth c b B D ca H locs lc Qw C hlen hH hL hst RH
  obtain ⟨hsz, hP, ho⟩ := hH.1
  obtain ⟨i, rfl, hj⟩ := okH_pos ho hx (by intro q; cases q)
  have hv : rg v := ok_hd hst
  have hxr : rg x := ok_hd (ok_tl hst)
  have he := wso_at (b := b) (B := B) (ca := ca) hj
  rw [enc_3 hx] at he
  have hin := in_of hxr h0 h1
  have hnv : narrow .char (.int (Int32.ofInt v)) = .int (Int32.ofInt v) := (nar_i (t := .char) (v := v) hv01 b B).1
  refine W.cast C.1 C.2.1 (hP i _ he) ((C.2.2.2.2.2.2.1.2 2 _ rfl).1 n (fun q => .int (Int32.ofInt (hi h (i + 1) q)))) (fun q => by cases q) (by show ¬ (_ ∨ (arrV _ _ _).slots.size ≤ _); rw [arrV_size]; exact hin) rfl rfl hd fun H1 e1 z oq => ?_
  refine kk p l e R s m args below meth c b B D ca H1 _ lc Qw C hlen (HR_arr hH hj he rfl enc_up (enc_3 hx) (okH_up ho hv) ?_ z oq) hL (ok_tl (ok_tl (ok_tl hst))) RH
  rw [e1, fn_up h0, ← cl_nat hxr h0]
  rw [vp_cell_i, vp_cell_i, arrV_store]
  congr 2
  funext q
  by_cases hq : q = (Int32.ofInt x).toNatClampNeg
  · subst hq
    simpa [updV, upd] using hnv
  · simp [updV, upd, hq]
/-- a row of states gets one -/
theorem aw_aastore {j n u : Nat} {x : Int} (hd : decode md.2.1 pc = .ok (.aastore, 1)) (hx : hk h j = (4, n)) (h0 : 0 ≤ x) (h1 : x < n) (hu : hk h u = (0, 2)) (kk : AW md d scr Q (pc + 1) ls st (ur h j x (some u)) k) : AW md d scr Q pc ls (.inr (some u) :: .inl x :: .inr (some j) :: st) h k := by
  intro p l e R s m args below meth c b B D ca H locs lc Qw C hlen hH hL hst RH
  obtain ⟨hsz, hP, ho⟩ := hH.1
  obtain ⟨i, rfl, hj⟩ := okH_pos ho hx (by intro q; cases q)
  obtain ⟨iu, rfl, hju⟩ := okH_pos ho hu (by intro q; cases q)
  have hxr : rg x := ok_hd (ok_tl hst)
  have he := wso_at (b := b) (B := B) (ca := ca) hj
  rw [enc_4 hx] at he
  have heu := wso_at (b := b) (B := B) (ca := ca) hju
  rw [enc_o hu] at heu
  have hin := in_of hxr h0 h1
  have hlt : (Int32.ofInt x).toNatClampNeg < n := Nat.not_le.mp fun q => hin (Or.inr q)
  have hn0 : ¬ Int32.ofInt x < 0 := fun q => hin (Or.inl q)
  have hK := C.2.2.2.2.2.2.1
  obtain ⟨r', hr', cellV, g1, g2, g3, -⟩ := hP iu _ heu
  have hcls := (hK.1 2 _ (cl_at (ci := 2) (by decide))).2
  obtain ⟨kA, comp, k1, k2, k3, -⟩ := (hK.2 3 _ rfl).2
  have hcomp : comp = D.1 2 := Option.some.inj (k3.symm.trans hcls.1)
  subst hcomp
  obtain ⟨kC, hkC, -⟩ := hcls.2
  refine W.aast C.1 C.2.1 (hP i _ he) (fun q h => by cases h) (fun h => by cases h) k1 k2 rfl hkC ⟨hn0, by show _ < (arrV _ _ _).slots.size; rw [arrV_size]; exact hlt⟩ g1 (fun q h => by rw [g3] at h; cases h) (by rw [g2]; exact hkC) (by rw [g2]; exact va_assign hcls) rfl rfl hd fun H1 e1 z oq => ?_
  refine kk p l e R s m args below meth c b B D ca H1 _ lc Qw C hlen (HR_arr hH hj he rfl enc_ur (enc_4 hx) (okH_ur ho) ?_ z oq) hL (ok_tl (ok_tl (ok_tl hst))) RH
  rw [e1]
  rw [vp_cell_q, vp_cell_q, arrV_store]
  congr 2
  funext q
  by_cases hq : q = (Int32.ofInt x).toNatClampNeg
  · subst hq
    rw [cl_nat hxr h0]
    simp [updV, hr_ur, to_nat h0, va_rf, az]
  · have hq2 : ¬ (q : Int) = x := fun e => hq (by rw [cl_nat hxr h0]; omega)
    simp [updV, hq, hr_ur, hq2]
/-- the script -/
theorem aw_slen {q : Nat × (Nat → Int)} (hd : decode md.2.1 pc = .ok (.arraylength, 1)) (hs : scr = some q) (kk : AW md d scr Q (pc + 1) ls (.inl q.1 :: st) h k) : AW md d scr Q pc ls (.inr (some 0) :: st) h k := by
  intro p l e R s m args below meth c b B D ca H locs lc Qw C hlen hH hL hst RH
  obtain ⟨hX, hbB, hB, hL31, hq⟩ := C.2.2.2.2.2.2.2.2.2.2.2.2 q hs
  refine va_slen C.1 C.2.1 hX (hB ▸ hbB) (Nat.not_le.mpr hbB) hH.2 hd ?_
  exact kk p l e R s m args below meth c b B D ca H locs lc Qw C hlen hH hL (ok_of ⟨by omega, by omega⟩ (ok_tl hst)) RH
theorem aw_sld {q : Nat × (Nat → Int)} {x : Int} (hd : decode md.2.1 pc = .ok (.iaload, 1)) (hs : scr = some q) (h0 : 0 ≤ x) (h1 : x < q.1) (kk : AW md d scr Q (pc + 1) ls (.inl (q.2 x.toNat) :: st) h k) : AW md d scr Q pc ls (.inl x :: .inr (some 0) :: st) h k := by
  intro p l e R s m args below meth c b B D ca H locs lc Qw C hlen hH hL hst RH
  obtain ⟨hX, hbB, hB, hL31, hq⟩ := C.2.2.2.2.2.2.2.2.2.2.2.2 q hs
  have hxr : rg x := ok_hd hst
  refine va_sld C.1 C.2.1 hX (hB ▸ hbB) (Nat.not_le.mpr hbB) hH.2 (in_of hxr h0 h1) hd ?_
  rw [cl_nat hxr h0]
  exact kk p l e R s m args below meth c b B D ca H locs lc Qw C hlen hH hL (ok_of (hq _) (ok_tl (ok_tl hst))) RH
end AR
end
section
section CA
variable {md : MD} {d : Nat} {scr : Option (Nat × (Nat → Int))} {Q : Option Int → AH → Prop} {pc : Nat} {ls : List (Option AV)} {st : List AV} {h : AH} {k : Nat × Nat}
theorem okH_nw {h : AH} {kd : Nat × Nat} (ho : okH h) (hk0 : ∀ ci, kd = (0, ci) → ci < 8) : okH (nw h kd) := by
  refine ⟨fun a b => ?_, ?_, fun j hj => ?_, fun j ci hj => ?_⟩
  · show rg (if a = h.1 + 1 then 0 else h.2.2.2 a b)
    split
    · decide
    · exact ho.1 a b
  · show (if 0 = h.1 + 1 then kd else h.2.1 0) = _
    rw [if_neg (by omega)]
    exact ho.2.1
  · have hj' : h.1 + 1 < j := hj
    show (if j = h.1 + 1 then kd else h.2.1 j) = _
    rw [if_neg (by omega)]
    exact ho.2.2.1 j (by omega)
  · have hj' : (if j = h.1 + 1 then kd else h.2.1 j) = (0, ci) := hj
    split at hj'
    · exact hk0 ci hj'
    · exact ho.2.2.2 j ci hj'
theorem enc_nw {b B : Nat} {ca : Nat → ClassId} {h : AH} {kd : Nat × Nat} : ∀ i, i ≤ h.1 → enc b B ca (nw h kd) i = enc b B ca h i := by
  intro i hi'
  have hne : ¬ i = h.1 + 1 := by omega
  exact enc_cong (by show (if i = h.1 + 1 then kd else h.2.1 i) = _; rw [if_neg hne]; rfl) (fun k => by show (if i = h.1 + 1 then none else h.2.2.1 i k) = _; rw [if_neg hne]; rfl) (fun k => by show (if i = h.1 + 1 then 0 else h.2.2.2 i k) = _; rw [if_neg hne]; rfl)
theorem hk_nw {h : AH} {kd : Nat × Nat} : hk (nw h kd) (h.1 + 1) = kd := by show (if h.1 + 1 = h.1 + 1 then kd else _) = kd; rw [if_pos rfl]
theorem hr_nw {h : AH} {kd : Nat × Nat} {x : Int} : hr (nw h kd) (h.1 + 1) x = none := by show (if h.1 + 1 = h.1 + 1 then none else _) = none; rw [if_pos rfl]
theorem hi_nw {h : AH} {kd : Nat × Nat} {x : Int} : hi (nw h kd) (h.1 + 1) x = 0 := by show (if h.1 + 1 = h.1 + 1 then 0 else _) = (0 : Int); rw [if_pos rfl]
theorem HR_new {b B : Nat} {D : va_G} {ca : Nat → ClassId} {H0 H H1 : Heap} {locs : List Loc} {h : AH} {kd : Nat × Nat} (hH : HR b B D ca H0 h H locs) (hk0 : ∀ ci, kd = (0, ci) → ci < 8)
    (e1 : va_at D vwCl (H.size, enc b B ca (nw h kd) (h.1 + 1)) H1) (z : H1.size = H.size + 1) (oq : ∀ q, q < H.size → H1[q]? = H[q]?) : HR b B D ca H0 (nw h kd) H1 locs := by
  obtain ⟨⟨hsz, hP, ho⟩, hS⟩ := hH
  have h1 : va_P D vwCl (wso b B ca h ++ [(B + h.1, enc b B ca (nw h kd) (h.1 + 1))]) H1 := by
    refine (hP.kept (fun k x hx => oq x.1 ((hP k x hx).lt))).app (fun k x hx => ?_)
    have hz : k < 1 := (List.getElem?_eq_some_iff.mp hx).1
    rw [show k = 0 by omega] at hx
    cases hx
    rw [← hsz]
    exact e1
  rw [wso_push rfl enc_nw] at h1
  exact ⟨⟨by show H1.size = B + (h.1 + 1); omega, h1, okH_nw ho hk0⟩, Nat.le_trans hS.1 (by omega), fun x g1 g2 => (oq x (Nat.lt_of_lt_of_le g1 hS.1)).trans (hS.2.1 x g1 g2), hS.2.2⟩
theorem dflt_ok : ∀ ci, ci < 8 → ∀ kf, kf < cN ci → defaultValue (cT ci kf) = if isR (cT ci kf) = true then .null else .int 0 := by
  intro ci hci
  match ci, hci with
  | 0, _ => decide +kernel
  | 1, _ => decide +kernel
  | 2, _ => decide +kernel
  | 3, _ => decide +kernel
  | 4, _ => decide +kernel
  | 5, _ => decide +kernel
  | 6, _ => decide +kernel
  | 7, _ => decide +kernel
theorem aw_new {idx ci : Nat} (hd : decode md.2.1 pc = .ok (.new idx, 3)) (hci : ci < 8) (hcl : Cond.classLink md.1.cls idx (cR ci) ∈ tbG) (hinst : Cond.instantiable (cR ci) (cN ci) ∈ tbG) (hini : Cond.initialized (cR ci) ∈ tbG) (h1 : k.1 + 1 ≤ md.2.2.2.2.1) (h2 : k.2 + cN ci ≤ md.2.2.2.2.2)
    (kk : AW md d scr Q (pc + 3) ls (.inr (some (h.1 + 1)) :: st) (nw h (0, ci)) (k.1 + 1, k.2 + cN ci)) : AW md d scr Q pc ls st h k := by
  intro p l e R s m args below meth c b B D ca H locs lc Qw C hlen hH hL hst RH
  have hK := C.2.2.2.2.2.2.1
  have hts := C.2.2.2.2.1
  have hKn := hK.1 ci _ (cl_at hci)
  refine W.newcK C.1 C.2.1 C.2.2.2.1 (hts _ hcl) (hts _ hinst) (hts _ hini) rfl hd (by rw [C.2.2.2.2.2.2.2.2.1]; exact h1) (by rw [C.2.2.2.2.2.2.2.2.2.1]; exact h2) hKn.2.1 rfl fun H1 kC hkC e1 z1 o1 => ?_
  have hsz := hH.1.1
  have g := kk p l e R s m args below meth c b B D ca H1 locs lc Qw C hlen (HR_new hH (fun x q => by cases q; exact hci) ?_ z1 o1) hL (ok_of trivial hst) RH
  · rw [hsz]
    exact g
  · rw [enc_o hk_nw]
    refine ⟨_, cl_at hci, (u_born (cT ci) hts (cl_words hci) hKn hkC e1 (cl_ty hci)).to (fun j hj => ?_)⟩
    have hj' : j < cN ci := hj
    rw [dflt_ok ci hci j hj']
    simp only [vp_V, List.getD_eq_getElem?_getD]
    rw [fs_at hj']
    simp only [fvl, hr_nw, hi_nw]
    rfl
theorem aw_newarr_int {n : Nat} {x : Int} {at' : ArrayType} (hd : decode md.2.1 pc = .ok (.newarray at', 2)) (hat : newarray.typeOf at' = .int) (harr : Cond.arrayClass .int ∈ tbG) (hx : x = (n : Int)) (hn : n ≤ 65536) (h1 : k.1 + 1 ≤ md.2.2.2.2.1) (h2 : k.2 + n ≤ md.2.2.2.2.2)
    (kk : AW md d scr Q (pc + 2) ls (.inr (some (h.1 + 1)) :: st) (nw h (1, n)) (k.1 + 1, k.2 + n)) : AW md d scr Q pc ls (.inl x :: st) h k := by
  intro p l e R s m args below meth c b B D ca H locs lc Qw C hlen hH hL hst RH
  have hK := C.2.2.2.2.2.2.1
  have hts := C.2.2.2.2.1
  subst hx
  have hxr : rg (n : Int) := ok_hd hst
  have hsz := hH.1.1
  refine va_newaK C.1 C.2.1 (hts _ (hat.symm ▸ harr)) rfl hd (n := Int32.ofInt (n : Int)) (N := n) rfl (fun q => ?_) (by rw [cl_nat hxr (by omega)]; omega) ?_ (by rw [C.2.2.2.2.2.2.2.2.1]; exact h1) (by rw [C.2.2.2.2.2.2.2.2.2.1]; exact h2) rfl fun H1 cA e1 z1 o1 hAr hNm => ?_
  · have := (i_lt hxr rg0).mp q
    omega
  · rw [hat]
    simp only [componentBytes]
    omega
  · rw [hat] at e1 hAr hNm
    have hcA : cA = ca 1 := Option.some.inj (hNm.symm.trans (show s.vm.findClass ("[" ++ FieldType.toString .int) = some (ca 1) from (hK.2 0 _ rfl).2))
    have e1' : va_at D vwCl (H.size, enc b B ca (nw h (1, n)) (h.1 + 1)) H1 := by
      rw [enc_1 hk_nw]
      show H1[H.size]? = some (vp_cell (ca 1) (n, .inl _))
      rw [e1, hcA, vp_cell_i]
      congr 2
      funext q
      rw [hi_nw]
      rfl
    have g := kk p l e R s m args below meth c b B D ca H1 locs lc Qw C hlen (HR_new hH (fun x q => by cases q) e1' z1 o1) hL (ok_of trivial (ok_tl hst)) RH
    rw [hsz]
    exact g
theorem aw_newarr_bool {n : Nat} {x : Int} {at' : ArrayType} (hd : decode md.2.1 pc = .ok (.newarray at', 2)) (hat : newarray.typeOf at' = .boolean) (harr : Cond.arrayClass .boolean ∈ tbG) (hx : x = (n : Int)) (hn : n ≤ 65536) (h1 : k.1 + 1 ≤ md.2.2.2.2.1) (h2 : k.2 + n ≤ md.2.2.2.2.2)
    (kk : AW md d scr Q (pc + 2) ls (.inr (some (h.1 + 1)) :: st) (nw h (2, n)) (k.1 + 1, k.2 + n)) : AW md d scr Q pc ls (.inl x :: st) h k := by
  intro p l e R s m args below meth c b B D ca H locs lc Qw C hlen hH hL hst RH
  have hK := C.2.2.2.2.2.2.1
  have hts := C.2.2.2.2.1
  subst hx
  have hxr : rg (n : Int) := ok_hd hst
  have hsz := hH.1.1
  refine va_newaK C.1 C.2.1 (hts _ (hat.symm ▸ harr)) rfl hd (n := Int32.ofInt (n : Int)) (N := n) rfl (fun q => ?_) (by rw [cl_nat hxr (by omega)]; omega) ?_ (by rw [C.2.2.2.2.2.2.2.2.1]; exact h1) (by rw [C.2.2.2.2.2.2.2.2.2.1]; exact h2) rfl fun H1 cA e1 z1 o1 hAr hNm => ?_
  · have := (i_lt hxr rg0).mp q
    omega
  · rw [hat]
    simp only [componentBytes]
    omega
  · rw [hat] at e1 hAr hNm
    have hcA : cA = ca 2 := Option.some.inj (hNm.symm.trans (show s.vm.findClass ("[" ++ FieldType.toString .boolean) = some (ca 2) from (hK.2 1 _ rfl).2))
    have e1' : va_at D vwCl (H.size, enc b B ca (nw h (2, n)) (h.1 + 1)) H1 := by
      rw [enc_2 hk_nw]
      show H1[H.size]? = some (vp_cell (ca 2) (n, .inl _))
      rw [e1, hcA, vp_cell_i]
      congr 2
      funext q
      rw [hi_nw]
      rfl
    have g := kk p l e R s m args below meth c b B D ca H1 locs lc Qw C hlen (HR_new hH (fun x q => by cases q) e1' z1 o1) hL (ok_of trivial (ok_tl hst)) RH
    rw [hsz]
    exact g
theorem aw_newarr_char {n : Nat} {x : Int} {at' : ArrayType} (hd : decode md.2.1 pc = .ok (.newarray at', 2)) (hat : newarray.typeOf at' = .char) (harr : Cond.arrayClass .char ∈ tbG) (hx : x = (n : Int)) (hn : n ≤ 65536) (h1 : k.1 + 1 ≤ md.2.2.2.2.1) (h2 : k.2 + n ≤ md.2.2.2.2.2)
    (kk : AW md d scr Q (pc + 2) ls (.inr (some (h.1 + 1)) :: st) (nw h (3, n)) (k.1 + 1, k.2 + n)) : AW md d scr Q pc ls (.inl x :: st) h k := by
  intro p l e R s m args below meth c b B D ca H locs lc Qw C hlen hH hL hst RH
  have hK := C.2.2.2.2.2.2.1
  have hts := C.2.2.2.2.1
  subst hx
  have hxr : rg (n : Int) := ok_hd hst
  have hsz := hH.1.1
  refine va_newaK C.1 C.2.1 (hts _ (hat.symm ▸ harr)) rfl hd (n := Int32.ofInt (n : Int)) (N := n) rfl (fun q => ?_) (by rw [cl_nat hxr (by omega)]; omega) ?_ (by rw [C.2.2.2.2.2.2.2.2.1]; exact h1) (by rw [C.2.2.2.2.2.2.2.2.2.1]; exact h2) rfl fun H1 cA e1 z1 o1 hAr hNm => ?_
  · have := (i_lt hxr rg0).mp q
    omega
  · rw [hat]
    simp only [componentBytes]
    omega
  · rw [hat] at e1 hAr hNm
    have hcA : cA = ca 3 := Option.some.inj (hNm.symm.trans (show s.vm.findClass ("[" ++ FieldType.toString .char) = some (ca 3) from (hK.2 2 _ rfl).2))
    have e1' : va_at D vwCl (H.size, enc b B ca (nw h (3, n)) (h.1 + 1)) H1 := by
      rw [enc_3 hk_nw]
      show H1[H.size]? = some (vp_cell (ca 3) (n, .inl _))
      rw [e1, hcA, vp_cell_i]
      congr 2
      funext q
      rw [hi_nw]
      rfl
    have g := kk p l e R s m args below meth c b B D ca H1 locs lc Qw C hlen (HR_new hH (fun x q => by cases q) e1' z1 o1) hL (ok_of trivial (ok_tl hst)) RH
    rw [hsz]
    exact g
theorem aw_newref {n : Nat} {x : Int} {idx : Nat} (hd : decode md.2.1 pc = .ok (.anewarray idx, 3)) (hcl : Cond.classLink md.1.cls idx RX2 ∈ tbG) (hx : x = (n : Int)) (hn : n ≤ 65536) (h1 : k.1 + 1 ≤ md.2.2.2.2.1) (h2 : k.2 + n ≤ md.2.2.2.2.2)
    (kk : AW md d scr Q (pc + 3) ls (.inr (some (h.1 + 1)) :: st) (nw h (4, n)) (k.1 + 1, k.2 + n)) : AW md d scr Q pc ls (.inl x :: st) h k := by
  intro p l e R s m args below meth c b B D ca H locs lc Qw C hlen hH hL hst RH
  have hK := C.2.2.2.2.2.2.1
  have hts := C.2.2.2.2.1
  subst hx
  have hxr : rg (n : Int) := ok_hd hst
  have hsz := hH.1.1
  have hcn := cl_nat hxr (by omega)
  have hcn' : (Int32.ofInt (n : Int)).toNatClampNeg = n := by rw [hcn]; omega
  refine W.anew C.1 C.2.1 C.2.2.2.1 (hts _ hcl) (C.2.2.2.2.2.2.2.1.2.2.use) rfl hd (n := Int32.ofInt (n : Int)) rfl (fun q => ?_) (by rw [hcn']; omega) (by rw [C.2.2.2.2.2.2.2.2.1]; exact h1) (by rw [hcn', C.2.2.2.2.2.2.2.2.2.1]; exact h2) fun cA kA comp f1 f2 f3 f4 => ?_
  · have := (i_lt hxr rg0).mp q
    omega
  · rw [hcn']
    generalize hH1 : H.push ({ cls := cA, slots := Array.replicate n .null, vm := .none } : Cell) = H1
    have z1 : H1.size = H.size + 1 := by rw [← hH1, Array.size_push]
    have e1 : H1[H.size]? = some (arrV cA n (fun _ => .null)) := by rw [← hH1, Array.getElem?_push_size, ← arrV_new]
    have o1 : ∀ q : Nat, q < H.size → H1[q]? = H[q]? := fun q hq => by rw [← hH1, Array.getElem?_push, if_neg (Nat.ne_of_lt hq)]
    obtain ⟨kB, cmp, r1, r2, r3, r4⟩ := (hK.2 3 _ rfl).2
    have hcA : cA = ca 4 := Option.some.inj (f1.symm.trans r4)
    have e1' : va_at D vwCl (H.size, enc b B ca (nw h (4, n)) (h.1 + 1)) H1 := by
      rw [enc_4 hk_nw]
      show H1[H.size]? = some (vp_cell (ca 4) (n, .inr (.inr (.inr (.inr _)))))
      rw [e1, hcA, vp_cell_q]
      congr 2
      funext q
      rw [hr_nw]
      rfl
    have g := kk p l e R s m args below meth c b B D ca H1 locs lc Qw C hlen (HR_new hH (fun x q => by cases q) e1' z1 o1) hL (ok_of trivial (ok_tl hst)) RH
    rw [hsz]
    exact g
/-! returns -/
theorem aw_ireturn {v : Int} (hd : decode md.2.1 pc = .ok (.ireturn, 1)) (hv : okr md.2.2.2.1 v) (hq : Q (some v) h) (h1 : k.1 ≤ md.2.2.2.2.1) (h2 : k.2 ≤ md.2.2.2.2.2) : AW md d scr Q pc ls [.inl v] h k := by
  intro p l e R s m args below meth c b B D ca H locs lc Qw C hlen hH hL hst RH
  exact RH (some v) pc h H locs lc k hH hq h1 h2 hv hd
theorem aw_return (hd : decode md.2.1 pc = .ok (.return_, 1)) (hr : md.2.2.2.1 = none) (hq : Q none h) (h1 : k.1 ≤ md.2.2.2.2.1) (h2 : k.2 ≤ md.2.2.2.2.2) : AW md d scr Q pc ls [] h k := by
  intro p l e R s m args below meth c b B D ca H locs lc Qw C hlen hH hL hst RH
  exact RH none pc h H locs lc k hH hq h1 h2 hr hd
/-! calls -/
theorem goodG {w : Cond} (h : w ∈ tbG) : w ∈ tbG ∧ ((w.onTables && w.keeps) = true ∨ ∃ ty, w = .arrayClass ty) := ⟨h, good_of_word (List.mem_filter.mp h).2⟩
theorem good_wmo {md : MD} {n : Nat} (h : MO md n) : GoodIn tbG (wmo md) := fun w hw => (List.mem_cons.mp hw).elim (fun e => by rw [e]; exact goodG h.2.1) goodG
theorem st_cat {b B : Nat} (st : List AV) : ((st.map (cv b B)).map fun v => v.category).sum = st.length := by
  induction st with
  | nil => rfl
  | cons a t ih =>
    simp only [List.map_cons, List.sum_cons, List.length_cons, cv_cat, ih]
    omega
theorem q_call {p : Program} {l : Launch} {e : Env} {R : Room} {s : State} {m : MethodId} {args : Array Value} {below : List Frame} {meth : Method} {c : Code} {H : Heap} {locs : List Loc} {cells slots mc ms : Nat} {Qw : State → Prop} {pc : Nat} {lc : Array Slot} {st0 rest : List Value} {b B : Nat} {D : va_G} {ca : Nat → ClassId} {Q : Option Int → AH → Prop} {a : Array Value}
    (hr : va_Run p l e R s m args below meth c H locs cells slots mc ms (F0 m pc lc st0) rest (Pst b B D ca Q a) (fun q => B ≤ q)) (hS : va_S (fun q => B ≤ q) s.heap H locs)
    (kk : ∀ (r : Option Int) (h' : AH) (H1 : Heap) (locs1 : List Loc), (∀ v, r = some v → rg v) → Q r h' → HR b B D ca s.heap h' H1 locs1 → W p l e R s m args below meth c H1 locs1 (cells + mc) (slots + ms) Qw (F0 m (pc + 3) lc ((r.map fun v => Value.int (Int32.ofInt v)).toList ++ rest))) :
    W p l e R s m args below meth c H locs cells slots Qw (F0 m pc lc st0) := by
  intro T hT X
  obtain ⟨v, st₀, t, T', L, h0, X', hL, e1, e2, ⟨⟨r, h', hv, hrg, hq, hh⟩, hz, hk⟩, sp⟩ := hr T hT X
  cases hv
  rw [h0] at hz hk
  obtain ⟨t2, a1, b1⟩ := kk r h' T'.heap (locs ++ L) hrg hq ⟨by rw [e1]; exact hh, Nat.le_trans hS.1 (by rw [e1]; exact hz), fun q h1 h2 => by rw [e1, hk q (Nat.lt_of_lt_of_le h1 hS.1) h2]; exact hS.2.1 q h1 h2, fun q hq => by
      rcases List.mem_append.mp hq with h | h
      · exact hS.2.2 q h
      · exact hL q h⟩ T' rfl X'
  exact ⟨t2, sp t2 a1, b1⟩
theorem prc_S {b B : Nat} {D : va_G} {ca : Nat → ClassId} {as : List AV} {h : AH} {s : State} {H : Heap} (hH : HP b B D ca h H) (hK : va_K D vwCl (tys ca) s) (hN : NW s) : PreS s H (Prc b B D ca as h) (as.map (cv b B)) :=
  ⟨fun a U g mk q => by obtain ⟨q0, qP, qK, qN⟩ := q; exact ⟨q0, qP, va_K.moved (u := U) (U := U.calling g mk a) (Vm.Alike.refl U.vm) qK, qN.call⟩, fun U hU hW => ⟨rfl, by rw [hU]; exact hH, va_K.moved hW.alike hK, hN.warm hW⟩⟩
theorem frames_ok {R : Room} {d maxL : Nat} {md : MD} (hd1 : 1 ≤ d) (hf : d ≤ R.frames) (hl : 40 * d ≤ R.locals) (hm : maxL ≤ 20) : (rmo (d - 1) md).frames + 1 ≤ R.frames ∧ 8 + (maxL + 11) + (rmo (d - 1) md).locals ≤ R.locals := by
  show d - 1 + 1 ≤ R.frames ∧ 8 + (maxL + 11) + 40 * (d - 1) ≤ R.locals
  omega
theorem ok_as {st as : List AV} (h : ∀ x ∈ as.reverse ++ st, ok x) : (∀ x ∈ as, ok x) ∧ ∀ x ∈ st, ok x := ⟨fun x hx => h x (List.mem_append_left _ (List.mem_reverse.mpr hx)), fun x hx => h x (List.mem_append_right _ hx)⟩
theorem ok_res {st : List AV} {r : Option Int} (hr : ∀ v, r = some v → rg v) (h : ∀ x ∈ st, ok x) : ∀ x ∈ (r.map Sum.inl).toList ++ st, ok x := by
  intro x hx
  rcases List.mem_append.mp hx with hx | hx
  · cases r with
    | none => cases hx
    | some v =>
      rw [List.mem_singleton.mp hx]
      exact hr v rfl
  · exact h x hx
theorem res_map {b B : Nat} {st : List AV} {r : Option Int} : ((r.map Sum.inl).toList ++ st).map (cv b B) = (r.map fun v => Value.int (Int32.ofInt v)).toList ++ st.map (cv b B) := by
  cases r <;> rfl
/-- a method of an object's own class -/
theorem aw_invV {md' : MD} {idx n ci j : Nat} {as : List AV} (hd : decode md.2.1 pc = .ok (.invokevirtual idx, 3)) (hm : MO md' n) (hi : Cond.instanceMethod md'.1 ∈ tbG) (hsel : Cond.selects md'.1.cls md'.1 md'.1 ∈ tbG) (hl : Cond.methodLink md.1.cls idx md'.1 ∈ tbG) (hC : cR ci = md'.1.cls) (hx : hk h j = (0, ci)) (hn : as.length = n) (hd1 : 1 ≤ d) (hst8 : st.length ≤ 8)
    (h1 : k.1 + md'.2.2.2.2.1 ≤ md.2.2.2.2.1) (h2 : k.2 + md'.2.2.2.2.2 ≤ md.2.2.2.2.2)
    (hM : AM (d - 1) md' (.inr (some j) :: as) h (fun r h' => AW md d scr Q (pc + 3) ls ((r.map Sum.inl).toList ++ st) h' (k.1 + md'.2.2.2.2.1, k.2 + md'.2.2.2.2.2))) : AW md d scr Q pc ls (as.reverse ++ .inr (some j) :: st) h k := by
  intro p l e R s m args below meth c b B D ca H locs lc Qw C hlen hH hL hst RH
  obtain ⟨hsz, hP, ho⟩ := hH.1
  obtain ⟨i, rfl, hj⟩ := okH_pos ho hx (by intro q; cases q)
  have hci := ho.2.2.2 _ _ hx
  have hK := C.2.2.2.2.2.2.1
  have hts := C.2.2.2.2.1
  have he := wso_at (b := b) (B := B) (ca := ca) hj
  rw [enc_o hx] at he
  obtain ⟨hoas, host⟩ := ok_as hst
  have hfr := frames_ok (md := md') hd1 C.2.2.2.2.2.2.2.2.2.2.1 C.2.2.2.2.2.2.2.2.2.2.2.1 hm.2.2.2.1
  have hT : GoodIn tbG (wsV md.1.cls idx md'.1.cls md'.1 (wmo md')) := by
    intro w hw
    rcases List.mem_append.mp hw with hw | hw
    · simp only [List.mem_cons, List.not_mem_nil, or_false] at hw
      rcases hw with rfl | rfl | rfl | rfl
      · exact goodG hl
      · exact goodG hi
      · exact goodG hsel
      · exact goodG hm.1
    · exact good_wmo hm w hw
  have hrec := va_recv hK hP (cl_at hci) he
  rw [hC] at hrec
  have hPS := prc_S (as := .inr (some (i + 1)) :: as) hH.1 hK C.2.2.2.2.2.2.2.1.2
  refine q_call (rest := st.map (cv b B)) (va_runV (As := as.map (cv b B)) (b := B + i) ⟨C.1, C.2.1, C.2.2.1, C.2.2.2.1, hts⟩ (hM l b B D ca (ok_of trivial hoas)) (cwV n hts hT rfl rfl rfl ⟨rfl, hm.2.2.1⟩ hfr) ⟨hPS.1, hrec, hPS.2⟩ rfl (by rw [List.length_map]; exact hn) (by show lc.size = _; rw [hL.1.1, hlen]) (by simp [cv, va_rf, az]) (lv_room (by rw [st_cat]; exact hst8)) hd ⟨by rw [C.2.2.2.2.2.2.2.2.1]; exact h1, by rw [C.2.2.2.2.2.2.2.2.2.1]; exact h2⟩) hH.2 fun r h' H1 locs1 hrg hq hH1 => ?_
  have g := hq p l e R s m args below meth c b B D ca H1 locs1 lc Qw C hlen hH1 hL (ok_res hrg (ok_tl host)) RH
  rw [res_map] at g
  exact g
end CA
end
section
section MO
variable {md : MD} {d : Nat} {scr : Option (Nat × (Nat → Int))} {Q : Option Int → AH → Prop} {pc : Nat} {ls : List (Option AV)} {st : List AV} {h : AH} {k : Nat × Nat}
theorem aw_invS {md' : MD} {idx n : Nat} {as : List AV} (hd : decode md.2.1 pc = .ok (.invokestatic idx, 3)) (hm : MO md' n) (hi : Cond.static md'.1 ∈ tbG) (hl : Cond.methodLink md.1.cls idx md'.1 ∈ tbG) (hC : md'.1.cls = md.1.cls) (hn : as.length = n) (hd1 : 1 ≤ d) (hst8 : st.length ≤ 8)
    (h1 : k.1 + md'.2.2.2.2.1 ≤ md.2.2.2.2.1) (h2 : k.2 + md'.2.2.2.2.2 ≤ md.2.2.2.2.2)
    (hM : AM (d - 1) md' as h (fun r h' => AW md d scr Q (pc + 3) ls ((r.map Sum.inl).toList ++ st) h' (k.1 + md'.2.2.2.2.1, k.2 + md'.2.2.2.2.2))) : AW md d scr Q pc ls (as.reverse ++ st) h k := by
  intro p l e R s m args below meth c b B D ca H locs lc Qw C hlen hH hL hst RH
  have hK := C.2.2.2.2.2.2.1
  have hts := C.2.2.2.2.1
  obtain ⟨hoas, host⟩ := ok_as hst
  have hfr := frames_ok (md := md') hd1 C.2.2.2.2.2.2.2.2.2.2.1 C.2.2.2.2.2.2.2.2.2.2.2.1 hm.2.2.2.1
  have hT : GoodIn tbG (wsS md.1.cls idx md'.1 (wmo md')) := by
    intro w hw
    rcases List.mem_append.mp hw with hw | hw
    · simp only [List.mem_cons, List.not_mem_nil, or_false] at hw
      rcases hw with rfl | rfl | rfl
      · exact goodG hl
      · exact goodG hi
      · exact goodG (hC ▸ hm.1)
    · exact good_wmo hm w hw
  refine q_call (rest := st.map (cv b B)) (va_runS (As := as.map (cv b B)) ⟨C.1, C.2.1, C.2.2.1, C.2.2.2.1, hts⟩ (hM l b B D ca hoas) (cwS n hts hT rfl rfl rfl ⟨hC, hm.2.2.1⟩ hfr) (prc_S hH.1 hK C.2.2.2.2.2.2.2.1.2) rfl (by rw [List.length_map]; exact hn) (by show lc.size = _; rw [hL.1.1, hlen]) (by simp) (lv_room (by rw [st_cat]; exact hst8)) hd ⟨by rw [C.2.2.2.2.2.2.2.2.1]; exact h1, by rw [C.2.2.2.2.2.2.2.2.2.1]; exact h2⟩) hH.2 fun r h' H1 locs1 hrg hq hH1 => ?_
  have g := hq p l e R s m args below meth c b B D ca H1 locs1 lc Qw C hlen hH1 hL (ok_res hrg host) RH
  rw [res_map] at g
  exact g
/-- a static method of a nest mate -/
theorem aw_invSN {md' : MD} {idx n : Nat} {host : String} {as : List AV} (hd : decode md.2.1 pc = .ok (.invokestatic idx, 3)) (hm : MO md' n) (hi : Cond.static md'.1 ∈ tbG) (hl : (md.1.cls, idx, md'.1, host) ∈ nsL) (hn : as.length = n) (hd1 : 1 ≤ d) (hst8 : st.length ≤ 8)
    (h1 : k.1 + md'.2.2.2.2.1 ≤ md.2.2.2.2.1) (h2 : k.2 + md'.2.2.2.2.2 ≤ md.2.2.2.2.2)
    (hM : AM (d - 1) md' as h (fun r h' => AW md d scr Q (pc + 3) ls ((r.map Sum.inl).toList ++ st) h' (k.1 + md'.2.2.2.2.1, k.2 + md'.2.2.2.2.2))) : AW md d scr Q pc ls (as.reverse ++ st) h k := by
  intro p l e R s m args below meth c b B D ca H locs lc Qw C hlen hH hL hst RH
  have hK := C.2.2.2.2.2.2.1
  have hts := C.2.2.2.2.1
  obtain ⟨hoas, host'⟩ := ok_as hst
  have hfr := frames_ok (md := md') hd1 C.2.2.2.2.2.2.2.2.2.2.1 C.2.2.2.2.2.2.2.2.2.2.2.1 hm.2.2.2.1
  refine q_call (rest := st.map (cv b B)) (va_runSN (As := as.map (cv b B)) ⟨C.1, C.2.1, C.2.2.1, C.2.2.2.1, hts⟩ (hM l b B D ca hoas) ⟨va_cnB (host := host) n hts (good_wmo hm) rfl rfl rfl (C.2.2.2.2.2.2.2.1.2.1 _ hl) (hts _ hm.1) hm.2.2.1 hfr, hts _ hi, trivial⟩ (prc_S hH.1 hK C.2.2.2.2.2.2.2.1.2) rfl (by rw [List.length_map]; exact hn) (by show lc.size = _; rw [hL.1.1, hlen]) (by simp) (lv_room (by rw [st_cat]; exact hst8)) hd ⟨by rw [C.2.2.2.2.2.2.2.2.1]; exact h1, by rw [C.2.2.2.2.2.2.2.2.2.1]; exact h2⟩) hH.2 fun r h' H1 locs1 hrg hq hH1 => ?_
  have g := hq p l e R s m args below meth c b B D ca H1 locs1 lc Qw C hlen hH1 hL (ok_res hrg host') RH
  rw [res_map] at g
  exact g
theorem az_ref {b B i : Nat} : cv b B (.inr (some (i + 1))) = .ref (B + i) := rfl
/-- a constructor -/
theorem aw_invI {md' : MD} {idx n j : Nat} {as : List AV} (hd : decode md.2.1 pc = .ok (.invokespecial idx, 3)) (hm : MO md' n) (hret : md'.2.2.2.1 = none) (hi : Cond.instanceMethod md'.1 ∈ tbG) (hy1 : md'.1.name = "<init>") (hl : Cond.methodLink md.1.cls idx md'.1 ∈ tbG ∨ ∃ host, (md.1.cls, idx, md'.1, host) ∈ nsL) (hn : as.length = n) (hd1 : 1 ≤ d) (hst8 : st.length ≤ 8)
    (h1 : k.1 + md'.2.2.2.2.1 ≤ md.2.2.2.2.1) (h2 : k.2 + md'.2.2.2.2.2 ≤ md.2.2.2.2.2)
    (hM : AM (d - 1) md' (.inr (some (j + 1)) :: as) h (fun r h' => AW md d scr Q (pc + 3) ls ((r.map Sum.inl).toList ++ st) h' (k.1 + md'.2.2.2.2.1, k.2 + md'.2.2.2.2.2))) : AW md d scr Q pc ls (as.reverse ++ .inr (some (j + 1)) :: st) h k := by
  intro p l e R s m args below meth c b B D ca H locs lc Qw C hlen hH hL hst RH
  have hK := C.2.2.2.2.2.2.1
  have hts := C.2.2.2.2.1
  obtain ⟨hoas, host'⟩ := ok_as hst
  have hfr := frames_ok (md := md') hd1 C.2.2.2.2.2.2.2.2.2.2.1 C.2.2.2.2.2.2.2.2.2.2.2.1 hm.2.2.2.1
  have hcw : wmo md' = Cond.code md'.1 md'.2.1 md'.2.2.1 none :: tbG := by unfold wmo; rw [hret]
  have hfin : ∀ (hr : va_Run p l e R s m args below meth c H locs k.1 k.2 md'.2.2.2.2.1 md'.2.2.2.2.2 (F0 m pc lc ((as.reverse ++ .inr (some (j + 1)) :: st).map (cv b B))) (st.map (cv b B)) (Pst b B D ca (fun r h' => AW md d scr Q (pc + 3) ls ((r.map Sum.inl).toList ++ st) h' (k.1 + md'.2.2.2.2.1, k.2 + md'.2.2.2.2.2)) (Value.ref (B + j) :: as.map (cv b B)).toArray) (fun q => B ≤ q)), W p l e R s m args below meth c H locs k.1 k.2 Qw (F0 m pc lc ((as.reverse ++ .inr (some (j + 1)) :: st).map (cv b B))) := by
    intro hr
    refine q_call hr hH.2 fun r h' H1 locs1 hrg hq hH1 => ?_
    have g := hq p l e R s m args below meth c b B D ca H1 locs1 lc Qw C hlen hH1 hL (ok_res hrg (ok_tl host')) RH
    rw [res_map] at g
    exact g
  apply hfin
  have hM' := hM l b B D ca (ok_of trivial hoas)
  rw [hcw] at hM'
  have hG := good_wmo hm
  rw [hcw] at hG
  rcases hl with hl | ⟨host, hl⟩
  · exact va_runI (As := as.map (cv b B)) ⟨C.1, C.2.1, C.2.2.1, C.2.2.2.1, hts⟩ hM' (cwI n hts hG rfl rfl rfl (hts _ hm.1) (hts _ hl) (hts _ hi) hy1 hm.2.2.1 hfr) (prc_S (as := .inr (some (j + 1)) :: as) hH.1 hK C.2.2.2.2.2.2.2.1.2) rfl (by rw [List.length_map]; exact hn) (by show lc.size = _; rw [hL.1.1, hlen]) (by simp [cv, va_rf, az]) (lv_room (by rw [st_cat]; exact hst8)) hd ⟨by rw [C.2.2.2.2.2.2.2.2.1]; exact h1, by rw [C.2.2.2.2.2.2.2.2.2.1]; exact h2⟩
  · exact va_runIN (As := as.map (cv b B)) ⟨C.1, C.2.1, C.2.2.1, C.2.2.2.1, hts⟩ hM' ⟨va_cnB (host := host) n hts hG rfl rfl rfl (C.2.2.2.2.2.2.2.1.2.1 _ hl) (hts _ hm.1) hm.2.2.1 hfr, hy1, hts _ hi⟩ (prc_S (as := .inr (some (j + 1)) :: as) hH.1 hK C.2.2.2.2.2.2.2.1.2) rfl (by rw [List.length_map]; exact hn) (by show lc.size = _; rw [hL.1.1, hlen]) (by simp [cv, va_rf, az]) (lv_room (by rw [st_cat]; exact hst8)) hd ⟨by rw [C.2.2.2.2.2.2.2.2.1]; exact h1, by rw [C.2.2.2.2.2.2.2.2.2.1]; exact h2⟩
theorem aw_objInit {idx j : Nat} (hd : decode md.2.1 pc = .ok (.invokespecial idx, 3)) (hl : Cond.methodLink md.1.cls idx objectInit ∈ tbG) (hi : Cond.instanceMethod objectInit ∈ tbG) (hc : Cond.code objectInit ⟨#[0xb1]⟩ 1 none ∈ tbG) (hd1 : 1 ≤ d) (hst8 : st.length ≤ 8) (kk : AW md d scr Q (pc + 3) ls st h k) : AW md d scr Q pc ls (.inr (some (j + 1)) :: st) h k := by
  intro p l e R s m args below meth c b B D ca H locs lc Qw C hlen hH hL hst RH
  have hts := C.2.2.2.2.1
  have h10 := C.2.2.2.2.2.2.2.2.2.2.1
  have h11 := C.2.2.2.2.2.2.2.2.2.2.2.1
  refine W.objInit C.1 C.2.1 C.2.2.2.1 (hts _ hl) (hts _ hi) (hts _ hc) rfl (by show lc.size = _; rw [hL.1.1, hlen, C.2.2.1]) (rest := st.map (cv b B)) rfl hd (by omega) (by show 2 * 0 + _ + 12 ≤ _; rw [st_cat]; omega) ?_
  exact kk p l e R s m args below meth c b B D ca H locs lc Qw C hlen hH hL (ok_tl hst) RH
theorem aw_max {idx : Nat} {x y : Int} (hd : decode md.2.1 pc = .ok (.invokestatic idx, 3)) (hl : Cond.methodLink md.1.cls idx Lib.Math.max.name ∈ tbG) (hs : Cond.static Lib.Math.max.name ∈ tbG) (hi : Cond.initialized "java/lang/Math" ∈ tbG) (hc : Cond.code Lib.Math.max.name Lib.Math.max.code 2 (some .int) ∈ tbG) (hd1 : 1 ≤ d) (hst8 : st.length ≤ 8) (h1 : k.1 ≤ md.2.2.2.2.1) (h2 : k.2 ≤ md.2.2.2.2.2)
    (kk : AW md d scr Q (pc + 3) ls (.inl (if x < y then y else x) :: st) h k) : AW md d scr Q pc ls (.inl y :: .inl x :: st) h k := by
  intro p l e R s m args below meth c b B D ca H locs lc Qw C hlen hH hL hst RH
  have hts := C.2.2.2.2.1
  have h10 := C.2.2.2.2.2.2.2.2.2.2.1
  have h11 := C.2.2.2.2.2.2.2.2.2.2.2.1
  have hy : rg y := ok_hd hst
  have hx : rg x := ok_hd (ok_tl hst)
  refine va_mmax C.1 C.2.1 (by rw [hL.1.1, hlen, C.2.2.1]) C.2.2.2.1 (hts _ hl) (hts _ hs) (hts _ hi) (hts _ hc) (by omega) (by rw [st_cat]; omega) (by rw [C.2.2.2.2.2.2.2.2.1]; exact h1) (by rw [C.2.2.2.2.2.2.2.2.2.1]; exact h2) hd ?_
  have g := kk p l e R s m args below meth c b B D ca H locs lc Qw C hlen hH hL (ok_of (by split <;> assumption) (ok_tl (ok_tl hst))) RH
  have e1 : (if Int32.ofInt x < Int32.ofInt y then Int32.ofInt y else Int32.ofInt x) = Int32.ofInt (if x < y then y else x) := by
    by_cases q : x < y
    · rw [if_pos q, if_pos ((i_lt hx hy).mpr q)]
    · rw [if_neg q, if_neg (fun z => q ((i_lt hx hy).mp z))]
  rw [e1]
  exact g
theorem aw_min {idx : Nat} {x y : Int} (hd : decode md.2.1 pc = .ok (.invokestatic idx, 3)) (hl : Cond.methodLink md.1.cls idx Lib.Math.min.name ∈ tbG) (hs : Cond.static Lib.Math.min.name ∈ tbG) (hi : Cond.initialized "java/lang/Math" ∈ tbG) (hc : Cond.code Lib.Math.min.name Lib.Math.min.code 2 (some .int) ∈ tbG) (hd1 : 1 ≤ d) (hst8 : st.length ≤ 8) (h1 : k.1 ≤ md.2.2.2.2.1) (h2 : k.2 ≤ md.2.2.2.2.2)
    (kk : AW md d scr Q (pc + 3) ls (.inl (if y < x then y else x) :: st) h k) : AW md d scr Q pc ls (.inl y :: .inl x :: st) h k := by
  intro p l e R s m args below meth c b B D ca H locs lc Qw C hlen hH hL hst RH
  have hts := C.2.2.2.2.1
  have h10 := C.2.2.2.2.2.2.2.2.2.2.1
  have h11 := C.2.2.2.2.2.2.2.2.2.2.2.1
  have hy : rg y := ok_hd hst
  have hx : rg x := ok_hd (ok_tl hst)
  refine va_mmin C.1 C.2.1 (by rw [hL.1.1, hlen, C.2.2.1]) C.2.2.2.1 (hts _ hl) (hts _ hs) (hts _ hi) (hts _ hc) (by omega) (by rw [st_cat]; omega) (by rw [C.2.2.2.2.2.2.2.2.1]; exact h1) (by rw [C.2.2.2.2.2.2.2.2.2.1]; exact h2) hd ?_
  have g := kk p l e R s m args below meth c b B D ca H locs lc Qw C hlen hH hL (ok_of (by split <;> assumption) (ok_tl (ok_tl hst))) RH
  have e1 : (if Int32.ofInt y < Int32.ofInt x then Int32.ofInt y else Int32.ofInt x) = Int32.ofInt (if y < x then y else x) := by
    by_cases q : y < x
    · rw [if_pos q, if_pos ((i_lt hy hx).mpr q)]
    · rw [if_neg q, if_neg (fun z => q ((i_lt hy hx).mp z))]
  rw [e1]
  exact g
end MO
end
section
section BO
variable {md : MD} {d : Nat} {scr : Option (Nat × (Nat → Int))} {Q : Option Int → AH → Prop} {pc : Nat} {ls : List (Option AV)} {st : List AV} {h : AH} {k : Nat × Nat}
/-- a copied stretch of an array -/
def cpy (h : AH) (js jd : Nat) (sp dp n : Int) : AH := (h.1, h.2.1, h.2.2.1, fun a b => if a = jd ∧ dp ≤ b ∧ b < dp + n then h.2.2.2 js (sp + (b - dp)) else h.2.2.2 a b)
theorem hi_cpy {h : AH} {js jd : Nat} {sp dp n : Int} {a : Nat} {b : Int} : hi (cpy h js jd sp dp n) a b = if a = jd ∧ dp ≤ b ∧ b < dp + n then hi h js (sp + (b - dp)) else hi h a b := rfl
theorem hk_cpy {h : AH} {js jd : Nat} {sp dp n : Int} : hk (cpy h js jd sp dp n) = hk h := rfl
theorem hr_cpy {h : AH} {js jd : Nat} {sp dp n : Int} : hr (cpy h js jd sp dp n) = hr h := rfl
theorem aw_copy {idx js jd n0 n1 : Nat} {sp dp n : Int} (hd : decode md.2.1 pc = .ok (.invokestatic idx, 3)) (hl : Cond.methodLink md.1.cls idx arraycopyName ∈ tbG) (hnat : Cond.native arraycopyName ∈ tbG) (hs : Cond.static arraycopyName ∈ tbG) (hini : Cond.initialized "java/lang/System" ∈ tbG)
    (hx0 : hk h js = (1, n0)) (hx1 : hk h jd = (1, n1)) (h1 : 0 ≤ sp) (h2 : 0 ≤ dp) (h3 : 0 ≤ n) (h4 : sp + n ≤ n0) (h5 : dp + n ≤ n1) (hd1 : 1 ≤ d) (hst8 : st.length ≤ 8)
    (kk : AW md d scr Q (pc + 3) ls st (cpy h js jd sp dp n) k) : AW md d scr Q pc ls (.inl n :: .inl dp :: .inr (some jd) :: .inl sp :: .inr (some js) :: st) h k := by
  intro p l e R s m args below meth c b B D ca H locs lc Qw C hlen hH hL hst RH
  obtain ⟨⟨hsz, hP, ho⟩, hS⟩ := hH
  have hts := C.2.2.2.2.1
  have h10 := C.2.2.2.2.2.2.2.2.2.2.1
  have h11 := C.2.2.2.2.2.2.2.2.2.2.2.1
  obtain ⟨i0, rfl, hj0⟩ := okH_pos ho hx0 (by intro q; cases q)
  obtain ⟨i1, rfl, hj1⟩ := okH_pos ho hx1 (by intro q; cases q)
  have he0 := wso_at (b := b) (B := B) (ca := ca) hj0
  rw [enc_1 hx0] at he0
  have he1 := wso_at (b := b) (B := B) (ca := ca) hj1
  rw [enc_1 hx1] at he1
  have rn : rg n := ok_hd hst
  have rd : rg dp := ok_hd (ok_tl hst)
  have rs : rg sp := ok_hd (ok_tl (ok_tl (ok_tl hst)))
  have cn := cl_nat rn h3
  have cd := cl_nat rd h2
  have cs := cl_nat rs h1
  have hnw : nativeFrameWords "java/lang/System" "arraycopy" 5 ≤ 20 := by decide +kernel
  have hK := C.2.2.2.2.2.2.1
  intro T hT X
  have c0 : H[B + i0]? = some (vp_cell (ca 1) (n0, .inl fun q : Nat => Int32.ofInt (hi h (i0 + 1) q))) := hP i0 _ he0
  have c1 : H[B + i1]? = some (vp_cell (ca 1) (n1, .inl fun q : Nat => Int32.ofInt (hi h (i1 + 1) q))) := hP i1 _ he1
  obtain ⟨-, kA, hkA, cm, hkk⟩ := (hK.2 0 _ rfl).1 n0 (fun q => .int (Int32.ofInt (hi h (i0 + 1) q)))
  have tin : (Int32.ofInt n).toInt = n := ti rn
  have tis : (Int32.ofInt sp).toInt = sp := ti rs
  have tid : (Int32.ofInt dp).toInt = dp := ti rd
  obtain ⟨vm', X', step⟩ := X.arraycopy C.1 C.2.2.2.1 (hts _ hl) (hts _ hnat) (hts _ hs) (hts _ hini) (src := B + i0) (dst := B + i1) (cs := vp_cell (ca 1) (n0, .inl fun q : Nat => Int32.ofInt (hi h (i0 + 1) q))) (cd := vp_cell (ca 1) (n1, .inl fun q : Nat => Int32.ofInt (hi h (i1 + 1) q))) (srcPos := Int32.ofInt sp) (destPos := Int32.ofInt dp) (n := Int32.ofInt n) (by rw [hT]; exact c0) (by rw [hT]; exact c1)
    (fun _ z => by cases z) (fun _ z => by cases z) (fun z => by cases z) (fun z => by cases z) hkA hkA hkk hkk (by simp [refKind]) (fun q => by have := (i_lt rs rg0).mp q; omega) (fun q => by have := (i_lt rd rg0).mp q; omega) (fun q => by have := (i_lt rn rg0).mp q; omega)
    (by rw [tis, tin]; show ¬ _ > ((arrV (ca 1) n0 _).slots.size : Int); rw [arrV_size]; omega) (by rw [tid, tin]; show ¬ _ > ((arrV (ca 1) n1 _).slots.size : Int); rw [arrV_size]; omega)
    (fun vm₁ _ i hin => by
      have ee : (vp_cell (ca 1) (n0, .inl fun q : Nat => Int32.ofInt (hi h (i0 + 1) q))).slots.getD ((Int32.ofInt sp).toNatClampNeg + i) .null = .int (Int32.ofInt (hi h (i0 + 1) (((Int32.ofInt sp).toNatClampNeg + i : Nat) : Int))) := by
        show (arrV (ca 1) n0 _).slots.getD _ _ = _
        rw [Array.getD_eq_getD_getElem?, arrV_read _ _ (by rw [cn] at hin; omega)]
        rfl
      refine ⟨?_, ?_⟩
      · rw [ee]; rfl
      · rw [ee]; exact trivial)
    (g := F0 m pc lc (.int (Int32.ofInt n) :: .int (Int32.ofInt dp) :: .ref (B + i1) :: .int (Int32.ofInt sp) :: .ref (B + i0) :: st.map (cv b B))) rfl (by show lc.size = _; rw [hL.1.1, hlen, C.2.2.1]) (rest := st.map (cv b B)) rfl (by rw [C.2.1]; exact hd) (by omega) (by show 2 * 0 + _ + _ ≤ _; rw [st_cat]; omega)
  have e1 := va_copied (fun z : Int32 => Value.int z) (ca 1) (ca 1) (n0 := n0) (n1 := n1) (fun q : Nat => Int32.ofInt (hi h (i0 + 1) q)) (fun q : Nat => Int32.ofInt (hi h (i1 + 1) q)) (sp := (Int32.ofInt sp).toNatClampNeg) (dp := (Int32.ofInt dp).toNatClampNeg) (n := (Int32.ofInt n).toNatClampNeg) (by rw [cs, cn]; omega)
  have e2 : copied (vp_cell (ca 1) (n0, .inl fun q : Nat => Int32.ofInt (hi h (i0 + 1) q))) (vp_cell (ca 1) (n1, .inl fun q : Nat => Int32.ofInt (hi h (i1 + 1) q))) (Int32.ofInt sp) (Int32.ofInt dp) (Int32.ofInt n) = vp_cell (ca 1) (n1, .inl fun q : Nat => Int32.ofInt (hi (cpy h (i0 + 1) (i1 + 1) sp dp n) (i1 + 1) q)) := by
    refine Eq.trans e1 ?_
    rw [cs, cd, cn, vp_cell_i]
    congr 1
    funext q
    simp only [va_cpy, hi_cpy, true_and]
    by_cases hq : dp.toNat ≤ q ∧ q < dp.toNat + n.toNat
    · rw [if_pos hq, if_pos (by omega)]
      congr 3
      omega
    · rw [if_neg hq, if_neg (by omega)]
  rw [e2] at X' step
  have hl' : B + i1 < H.size := (Array.getElem?_eq_some_iff.mp c1).1
  generalize hN : vp_cell (ca 1) (n1, .inl fun q : Nat => Int32.ofInt (hi (cpy h (i0 + 1) (i1 + 1) sp dp n) (i1 + 1) q)) = new at X' step
  have hheap : ((T.setVm vm').setCell (B + i1) new).heap = H.setIfInBounds (B + i1) new := by rw [← hT]; rfl
  have hHR : HR b B D ca s.heap (cpy h (i0 + 1) (i1 + 1) sp dp n) (H.setIfInBounds (B + i1) new) (locs ++ [⟨B + i1, 0⟩]) :=
    HR_arr ⟨⟨hsz, hP, ho⟩, hS⟩ hj1 he1 rfl
      (fun x hx' => enc_cong rfl (fun _ => rfl) (fun q => by rw [hi_cpy, if_neg (fun z => hx' z.1)])) (enc_1 hx1)
      ⟨fun a z => by rw [hi_cpy]; split <;> exact ho.1 _ _, ho.2⟩ (by rw [hN]; simp [Array.getElem?_setIfInBounds, hl']) (by simp) (fun q hq => by simp [Array.getElem?_setIfInBounds, Ne.symm hq])
  obtain ⟨t, a1, b1⟩ := kk p l e R s m args below meth c b B D ca _ _ lc Qw C hlen
    ⟨hHR.1, hHR.2.1, hHR.2.2.1, fun q hq => by
      rcases List.mem_append.mp hq with g | g
      · exact hS.2.2 q g
      · obtain ⟨z, -, hz⟩ := List.mem_map.mp g
        rw [← hz]
        exact Nat.le_add_right B i1⟩ hL (ok_tl (ok_tl (ok_tl (ok_tl (ok_tl hst))))) RH _ hheap X'
  exact ⟨t, step t a1, b1⟩
theorem lpr_args {b B : Nat} : ∀ (as : List AV) (i : Nat), lv_args i (as.map (cv b B)) = lpr b B i (as.map some)
  | [], i => rfl
  | a :: t, i => by
    show (i, cv b B a) :: lv_args (if (cv b B a).category = 2 then i + 2 else i + 1) (t.map (cv b B)) = (i, cv b B a) :: lpr b B (i + 1) (t.map some)
    rw [if_neg (by rw [cv_cat]; decide), lpr_args t (i + 1)]
theorem lpr_app {b B : Nat} : ∀ (t u : List (Option AV)) (i : Nat), lpr b B i (t ++ u) = lpr b B i t ++ lpr b B (i + t.length) u
  | [], u, i => rfl
  | none :: t, u, i => by
    show lpr b B (i + 1) (t ++ u) = lpr b B (i + 1) t ++ lpr b B (i + (t.length + 1)) u
    rw [lpr_app t u (i + 1), show i + 1 + t.length = i + (t.length + 1) by omega]
  | some a :: t, u, i => by
    show (i, cv b B a) :: lpr b B (i + 1) (t ++ u) = (i, cv b B a) :: (lpr b B (i + 1) t ++ lpr b B (i + (t.length + 1)) u)
    rw [lpr_app t u (i + 1), show i + 1 + t.length = i + (t.length + 1) by omega]
theorem lpr_none {b B : Nat} : ∀ (n i : Nat), lpr b B i (List.replicate n none) = []
  | 0, i => rfl
  | n + 1, i => lpr_none n (i + 1)
theorem lg_sl_cv {b B : Nat} (as : List AV) : (lg_sl (as.map (cv b B))).length = as.length := by
  induction as with
  | nil => rfl
  | cons a t ih =>
    simp only [lg_sl, List.map_cons, List.flatMap_cons, cv_cat, List.length_append, List.length_cons] at ih ⊢
    simp at ih ⊢
    omega
theorem am_body {n : Nat} {as : List AV} (hm : MO md n) (hl : as.length ≤ md.2.2.1) (hB : AW md d none Q 0 (as.map some ++ List.replicate (md.2.2.1 - as.length) none) [] h (0, 0)) : AM d md as h Q := by
  intro l b B D ca has
  refine Met.ofW (cc := md.2.1) (maxL := md.2.2.1) (ret := md.2.2.2.1) hm.2.2.2.2 rfl ?_
  intro p e s m args below meth c s₁ BB hml hv
  obtain ⟨rfl, hHP, hK, hN⟩ := hv
  have hts := atoms_spec (ws := wmo md) BB.pre
  have hlocks := BB.notSynchronized
  have hent := lv_entry (as.map (cv b B)) (n := md.2.2.1) (by rw [lg_sl_cv]; exact hl)
  rw [lg_entry_eq]
  rw [lpr_args] at hent
  generalize (lg_sl (as.map (cv b B)) ++ List.replicate (md.2.2.1 - (lg_sl (as.map (cv b B))).length) Slot.unset).toArray = lc at hent ⊢
  have hlen : (as.map some ++ List.replicate (md.2.2.1 - as.length) (none : Option AV)).length = md.2.2.1 := by simp; omega
  have hLR : LR b B (as.map some ++ List.replicate (md.2.2.1 - as.length) none) lc := by
    refine ⟨?_, fun k v hk => ?_⟩
    · rw [lpr_app, lpr_none, List.append_nil, hlen]
      exact hent
    · rcases List.mem_append.mp (List.mem_of_getElem? hk) with q | q
      · obtain ⟨x, hx, hx2⟩ := List.mem_map.mp q
        cases hx2
        exact has _ hx
      · have := List.eq_of_mem_replicate q
        cases this
  refine hB p l e (rmo d md) s m _ below meth c b B D ca s.heap [] lc _ ⟨BB.exec, BB.bytes, hml, findClass_of_methodNamed BB.named, fun w hw => hts w (List.mem_cons_of_mem _ hw), (name_of_methodNamed BB.named BB.method).1, hK, ⟨by rw [hHP.1]; exact Nat.le_add_right _ _, hN⟩, rfl, rfl, Nat.le_refl _, Nat.le_refl _, fun q hq => by cases hq⟩ hlen ⟨hHP, va_S.rf⟩ hLR (fun _ hx => by cases hx) ?_
  intro r pc' h' H' locs' lc' k' hH' hQ hk1 hk2
  cases r with
  | none =>
    intro hret hd
    refine W.widen hk1 hk2 ?_
    have hfin : ∀ t : State, t.heap = H' → s.WarmedH t.vm → Pst b B D ca Q (as.map (cv b B)).toArray s (.returned none) t := fun t ht hW => ⟨⟨none, h', rfl, (fun _ q => by cases q), hQ, by rw [ht]; exact hH'.1⟩, hH'.2.F ht⟩
    exact W.vret BB.exec BB.bytes (BB.returns.trans hret) hfin hH'.2.2.2 hd
  | some v =>
    intro hret hd
    refine W.widen hk1 hk2 ?_
    have hfin : ∀ t : State, t.heap = H' → s.WarmedH t.vm → Pst b B D ca Q (as.map (cv b B)).toArray s (.returned (some (.int (Int32.ofInt v)))) t := fun t ht hW => ⟨⟨some v, h', rfl, fun _ q => by cases q; exact okr_rg hret, hQ, by rw [ht]; exact hH'.1⟩, hH'.2.F ht⟩
    cases hty : md.2.2.2.1 with
    | none => rw [hty] at hret; exact absurd hret (by simp [okr])
    | some ty =>
      rw [hty] at hret
      exact W.zret (ty := ty) BB.exec BB.bytes (BB.returns.trans hty) (nar_i hret b B).1 hfin hH'.2.2.2 hd
theorem am_mono {as : List AV} {Q' : Option Int → AH → Prop} (hA : AM d md as h Q) (hq : ∀ r h', (∀ v, r = some v → rg v) → okH h' → Q r h' → Q' r h') : AM d md as h Q' := by
  intro l b B D ca has p e ha hc hkk s m args below hf hfit hheap happ
  obtain ⟨n, o, h1, h2, h3, ⟨⟨r, h', e1, e2, e3, e4⟩, hF⟩, hfr⟩ := hA l b B D ca has p e ha hc hkk s m args below hf hfit hheap happ
  exact ⟨n, o, h1, h2, h3, ⟨⟨r, h', e1, e2, hq r h' e2 e4.2.2 e3, e4⟩, hF⟩, hfr⟩
theorem am_ok {as : List AV} (kk : okH h → (∀ a ∈ as, ok a) → AM d md as h Q) : AM d md as h Q := by
  intro l b B D ca has p e ha hc hkk s m args below hf hfit hheap happ
  exact kk hheap.2.1.2.2 has l b B D ca has p e ha hc hkk s m args below hf hfit hheap happ
end BO
end
section
section R2
variable {md : MD} {d : Nat} {scr : Option (Nat × (Nat → Int))} {Q : Option Int → AH → Prop} {pc : Nat} {ls : List (Option AV)} {st : List AV} {h : AH} {k : Nat × Nat}
theorem ax_geti {idx ci kf j : Nat} {v : Int} (hd : decode md.2.1 pc = .ok (.getfield idx, 3)) (hl : Cond.fieldLink md.1.cls idx (cU ci kf).1 (cU ci kf).2.1 (cU ci kf).2.2.1 ∈ tbG) (hkf : kf < cN ci) (hT : isR (cT ci kf) = false) (hx : hk h j = (0, ci)) (hv : hi h j kf = v)
    (kk : AW md d scr Q (pc + 3) ls (.inl v :: st) h k) : AW md d scr Q pc ls (.inr (some j) :: st) h k := by
  subst hv
  exact aw_geti hd hl hkf hT hx kk
theorem ax_iaload {j n : Nat} {x v : Int} (hd : decode md.2.1 pc = .ok (.iaload, 1)) (hx : hk h j = (1, n)) (h01 : 0 ≤ x ∧ x < (n : Int)) (hv : hi h j x = v) (kk : AW md d scr Q (pc + 1) ls (.inl v :: st) h k) : AW md d scr Q pc ls (.inl x :: .inr (some j) :: st) h k := by
  subst hv
  exact aw_iaload hd hx h01.1 h01.2 kk
theorem ax_baload {j n : Nat} {x v : Int} (hd : decode md.2.1 pc = .ok (.baload, 1)) (hx : hk h j = (2, n)) (h01 : 0 ≤ x ∧ x < (n : Int)) (hv : hi h j x = v) (kk : AW md d scr Q (pc + 1) ls (.inl v :: st) h k) : AW md d scr Q pc ls (.inl x :: .inr (some j) :: st) h k := by
  subst hv
  exact aw_baload hd hx h01.1 h01.2 kk
theorem ax_caload {j n : Nat} {x v : Int} (hd : decode md.2.1 pc = .ok (.caload, 1)) (hx : hk h j = (3, n)) (h01 : 0 ≤ x ∧ x < (n : Int)) (hv : hi h j x = v) (kk : AW md d scr Q (pc + 1) ls (.inl v :: st) h k) : AW md d scr Q pc ls (.inl x :: .inr (some j) :: st) h k := by
  subst hv
  exact aw_caload hd hx h01.1 h01.2 kk
theorem ax_aaload {j n : Nat} {x : Int} {r : Option Nat} (hd : decode md.2.1 pc = .ok (.aaload, 1)) (hx : hk h j = (4, n)) (h01 : 0 ≤ x ∧ x < (n : Int)) (hv : hr h j x = r) (kk : AW md d scr Q (pc + 1) ls (.inr r :: st) h k) : AW md d scr Q pc ls (.inl x :: .inr (some j) :: st) h k := by
  subst hv
  exact aw_aaload hd hx h01.1 h01.2 kk
theorem ax_iastore {j n : Nat} {x v : Int} (hd : decode md.2.1 pc = .ok (.iastore, 1)) (hx : hk h j = (1, n)) (h01 : 0 ≤ x ∧ x < (n : Int)) (kk : AW md d scr Q (pc + 1) ls st (up h j x v) k) : AW md d scr Q pc ls (.inl v :: .inl x :: .inr (some j) :: st) h k := aw_iastore hd hx h01.1 h01.2 kk
theorem ax_bastore {j n : Nat} {x v : Int} (hd : decode md.2.1 pc = .ok (.bastore, 1)) (hx : hk h j = (2, n)) (h01 : 0 ≤ x ∧ x < (n : Int)) (hv01 : v = 0 ∨ v = 1) (kk : AW md d scr Q (pc + 1) ls st (up h j x v) k) : AW md d scr Q pc ls (.inl v :: .inl x :: .inr (some j) :: st) h k := aw_bastore hd hx h01.1 h01.2 hv01 kk
theorem ax_castore {j n : Nat} {x v : Int} (hd : decode md.2.1 pc = .ok (.castore, 1)) (hx : hk h j = (3, n)) (h01 : 0 ≤ x ∧ x < (n : Int)) (hv01 : 0 ≤ v ∧ v < 65536) (kk : AW md d scr Q (pc + 1) ls st (up h j x v) k) : AW md d scr Q pc ls (.inl v :: .inl x :: .inr (some j) :: st) h k := aw_castore hd hx h01.1 h01.2 hv01 kk
theorem ax_aastore {j n u : Nat} {x : Int} (hd : decode md.2.1 pc = .ok (.aastore, 1)) (hx : hk h j = (4, n)) (h01 : 0 ≤ x ∧ x < (n : Int)) (hu : hk h u = (0, 2)) (kk : AW md d scr Q (pc + 1) ls st (ur h j x (some u)) k) : AW md d scr Q pc ls (.inr (some u) :: .inl x :: .inr (some j) :: st) h k := aw_aastore hd hx h01.1 h01.2 hu kk
theorem ax_istore {i : Nat} {v : Int} {ls' : List (Option AV)} (hd : decode md.2.1 pc = .ok (.istore i, 2)) (hi : i < ls.length) (hs : ls.set i (some (.inl v)) = ls') (kk : AW md d scr Q (pc + 2) ls' st h k) : AW md d scr Q pc ls (.inl v :: st) h k := by
  subst hs
  exact aw_istore hd hi kk
theorem ax_istore_n {i : Fin 4} {v : Int} {ls' : List (Option AV)} (hd : decode md.2.1 pc = .ok (.istore_n i, 1)) (hi : i.val < ls.length) (hs : ls.set i.val (some (.inl v)) = ls') (kk : AW md d scr Q (pc + 1) ls' st h k) : AW md d scr Q pc ls (.inl v :: st) h k := by
  subst hs
  exact aw_istore_n hd hi kk
theorem ax_astore {i : Nat} {r : Nat} {ls' : List (Option AV)} (hd : decode md.2.1 pc = .ok (.astore i, 2)) (hi : i < ls.length) (hs : ls.set i (some (.inr (some r))) = ls') (kk : AW md d scr Q (pc + 2) ls' st h k) : AW md d scr Q pc ls (.inr (some r) :: st) h k := by
  subst hs
  exact aw_astore hd hi kk
theorem ax_astore_n {i : Fin 4} {r : Nat} {ls' : List (Option AV)} (hd : decode md.2.1 pc = .ok (.astore_n i, 1)) (hi : i.val < ls.length) (hs : ls.set i.val (some (.inr (some r))) = ls') (kk : AW md d scr Q (pc + 1) ls' st h k) : AW md d scr Q pc ls (.inr (some r) :: st) h k := by
  subst hs
  exact aw_astore_n hd hi kk
theorem ax_iinc {i : Nat} {n v v' : Int} {ls' : List (Option AV)} (hd : decode md.2.1 pc = .ok (.iinc i n, 3)) (hl : ls[i]? = some (some (.inl v))) (hn : rg (v + n)) (hv : v + n = v') (hs : ls.set i (some (.inl v')) = ls') (kk : AW md d scr Q (pc + 3) ls' st h k) : AW md d scr Q pc ls st h k := by
  subst hs hv
  exact aw_iinc hd hl hn kk
theorem ax_iadd {x y v : Int} (hd : decode md.2.1 pc = .ok (.iadd, 1)) (hn : rg (x + y)) (hv : x + y = v) (kk : AW md d scr Q (pc + 1) ls (.inl v :: st) h k) : AW md d scr Q pc ls (.inl y :: .inl x :: st) h k := by subst hv; exact aw_iadd hd hn kk
theorem ax_isub {x y v : Int} (hd : decode md.2.1 pc = .ok (.isub, 1)) (hn : rg (x - y)) (hv : x - y = v) (kk : AW md d scr Q (pc + 1) ls (.inl v :: st) h k) : AW md d scr Q pc ls (.inl y :: .inl x :: st) h k := by subst hv; exact aw_isub hd hn kk
theorem ax_imul {x y v : Int} (hd : decode md.2.1 pc = .ok (.imul, 1)) (hn : rg (x * y)) (hv : x * y = v) (kk : AW md d scr Q (pc + 1) ls (.inl v :: st) h k) : AW md d scr Q pc ls (.inl y :: .inl x :: st) h k := by subst hv; exact aw_imul hd hn kk
theorem ax_ireturn {v : Int} (hd : decode md.2.1 pc = .ok (.ireturn, 1)) (hret : md.2.2.2.1 = some .int) (hq : Q (some v) h) (h1 : k.1 ≤ md.2.2.2.2.1) (h2 : k.2 ≤ md.2.2.2.2.2) : AW md d scr Q pc ls [.inl v] h k := by
  intro p l e R s m args below meth c b B D ca H locs lc Qw C hlen hH hL hst RH
  exact RH (some v) pc h H locs lc k hH hq h1 h2 (by rw [hret]; exact ok_hd hst) hd
theorem ax_puti {idx ci kf j : Nat} {v : Int} (hd : decode md.2.1 pc = .ok (.putfield idx, 3)) (hl : Cond.fieldLink md.1.cls idx (cU ci kf).1 (cU ci kf).2.1 (cU ci kf).2.2.1 ∈ tbG) (hkf : kf < cN ci) (hT : isR (cT ci kf) = false) (hfin : (cU ci kf).2.2.2 = false) (hty : cT ci kf = .int) (hx : hk h j = (0, ci))
    (kk : AW md d scr Q (pc + 3) ls st (up h j kf v) k) : AW md d scr Q pc ls (.inl v :: .inr (some j) :: st) h k := by
  intro p l e R s m args below meth c b B D ca H locs lc Qw C hlen hH hL hst RH
  have hv : okr (some (cT ci kf)) v := by rw [hty]; exact ok_hd hst
  exact aw_puti hd hl hkf hT hfin hx hv kk p l e R s m args below meth c b B D ca H locs lc Qw C hlen hH hL hst RH
/-- fewer locals are known -/
theorem aw_forget {ls' : List (Option AV)} (hlen : ls'.length = ls.length) (hs : ∀ (i : Nat) (v : AV), ls'[i]? = some (some v) → ls[i]? = some (some v)) (kk : AW md d scr Q pc ls' st h k) : AW md d scr Q pc ls st h k := by
  intro p l e R s m args below meth c b B D ca H locs lc Qw C hlen' hH hL hst RH
  refine kk p l e R s m args below meth c b B D ca H locs lc Qw C (hlen.trans hlen') hH ⟨⟨hL.1.1.trans hlen.symm, hL.1.2.1, fun q hq => ?_⟩, fun i v hi => hL.2 i v (hs i v hi)⟩ hst RH
  obtain ⟨i, v, h1, h2⟩ := lpr_mem' _ _ _ hq
  rw [h2, Nat.zero_add]
  exact hL.get (hs i v h1)
def subl : List (Option AV) → List (Option AV) → Prop
  | [], [] => True
  | none :: t, _ :: u => subl t u
  | some v :: t, w :: u => w = some v ∧ subl t u
  | _, _ => False
theorem subl_ok : ∀ (t u : List (Option AV)), subl t u → t.length = u.length ∧ ∀ (i : Nat) (v : AV), t[i]? = some (some v) → u[i]? = some (some v)
  | [], [], _ => ⟨rfl, fun i v hi => by simp at hi⟩
  | none :: t, x :: u, hs => by
    obtain ⟨h1, h2⟩ := subl_ok t u hs
    refine ⟨by simp [h1], fun i v hi => ?_⟩
    cases i with
    | zero => simp at hi
    | succ i => exact h2 i v (by simpa using hi)
  | some v :: t, x :: u, hs => by
    obtain ⟨h1, h2⟩ := subl_ok t u hs.2
    refine ⟨by simp [h1], fun i y hi => ?_⟩
    cases i with
    | zero => rw [hs.1]; exact hi
    | succ i => exact h2 i y (by simpa using hi)
theorem aw_fewer {ls' : List (Option AV)} (hs : subl ls' ls) (kk : AW md d scr Q pc ls' st h k) : AW md d scr Q pc ls st h k := aw_forget (subl_ok _ _ hs).1 (subl_ok _ _ hs).2 kk
end R2
end
section
/-- what stays: the kinds of all, the references of objects -/
def SS (h h' : AH) : Prop := h'.1 = h.1 ∧ hk h' = hk h ∧ ∀ (j : Nat) (x : Int), (hk h j).1 = 0 → hr h' j x = hr h j x
theorem SS.rf {h : AH} : SS h h := ⟨rfl, rfl, fun _ _ _ => rfl⟩
theorem SS.tr {h h1 h2 : AH} (a : SS h h1) (b : SS h1 h2) : SS h h2 := ⟨b.1.trans a.1, b.2.1.trans a.2.1, fun j x q => (b.2.2 j x (by rw [a.2.1]; exact q)).trans (a.2.2 j x q)⟩
theorem SS.up {h h1 : AH} {j : Nat} {x v : Int} (a : SS h h1) : SS h (up h1 j x v) := ⟨a.1, a.2.1, a.2.2⟩
theorem SS.cpy {h h1 : AH} {js jd : Nat} {x v n : Int} (a : SS h h1) : SS h (cpy h1 js jd x v n) := ⟨a.1, a.2.1, a.2.2⟩
theorem SS.ur {h h1 : AH} {j n : Nat} {x : Int} {v : Option Nat} (a : SS h h1) (hj : hk h j = (4, n)) : SS h (ur h1 j x v) := ⟨a.1, a.2.1, fun i y q => by rw [hr_ur, if_neg (fun z => by rw [z.1, hj] at q; cases q)]; exact a.2.2 i y q⟩
def QP (h : AH) (p : Nat) : Prop := hk h p = (0, 1) ∧ hr h p 0 = some (p + 1) ∧ hk h (p + 1) = (1, 20) ∧ hr h p 1 = some (p + 2) ∧ hk h (p + 2) = (1, 20) ∧ hr h p 2 = some (p + 3) ∧ hk h (p + 3) = (1, 20) ∧ hr h p 3 = some (p + 4) ∧ hk h (p + 4) = (1, 20) ∧ hr h p 4 = some (p + 5) ∧ hk h (p + 5) = (2, 20) ∧ hr h p 5 = some (p + 6) ∧ hk h (p + 6) = (2, 20)
theorem QP.ss {h h' : AH} {p : Nat} (a : QP h p) (s : SS h h') : QP h' p := ⟨by rw [s.2.1]; exact a.1, (s.2.2 _ _ (by rw [a.1])).trans a.2.1, by rw [s.2.1]; exact a.2.2.1, (s.2.2 _ _ (by rw [a.1])).trans a.2.2.2.1, by rw [s.2.1]; exact a.2.2.2.2.1, (s.2.2 _ _ (by rw [a.1])).trans a.2.2.2.2.2.1, by rw [s.2.1]; exact a.2.2.2.2.2.2.1, (s.2.2 _ _ (by rw [a.1])).trans a.2.2.2.2.2.2.2.1, by rw [s.2.1]; exact a.2.2.2.2.2.2.2.2.1, (s.2.2 _ _ (by rw [a.1])).trans a.2.2.2.2.2.2.2.2.2.1, by rw [s.2.1]; exact a.2.2.2.2.2.2.2.2.2.2.1, (s.2.2 _ _ (by rw [a.1])).trans a.2.2.2.2.2.2.2.2.2.2.2.1, by rw [s.2.1]; exact a.2.2.2.2.2.2.2.2.2.2.2.2⟩
def QT (h : AH) (t : Nat) : Prop := hk h t = (0, 5) ∧ hr h t 0 = some (t + 1) ∧ hk h (t + 1) = (1, 200)
theorem QT.ss {h h' : AH} {t : Nat} (a : QT h t) (s : SS h h') : QT h' t := ⟨by rw [s.2.1]; exact a.1, (s.2.2 _ _ (by rw [a.1])).trans a.2.1, by rw [s.2.1]; exact a.2.2⟩
def QY (h : AH) (y : Nat) : Prop := hk h y = (0, 3)
theorem QY.ss {h h' : AH} {y : Nat} (a : QY h y) (s : SS h h') : QY h' y := by unfold QY at *; rw [s.2.1]; exact a
def QS (h : AH) (b : Nat) : Prop := hk h b = (0, 2) ∧ hr h b 0 = some (b + 1) ∧ QP h (b + 1) ∧ hr h b 1 = some (b + 8) ∧ QT h (b + 8) ∧ hr h b 2 = some (b + 10) ∧ QY h (b + 10) ∧ hr h b 3 = some (b + 11) ∧ hk h (b + 11) = (1, 2)
theorem QS.ss {h h' : AH} {b : Nat} (a : QS h b) (s : SS h h') : QS h' b := ⟨by rw [s.2.1]; exact a.1, (s.2.2 _ _ (by rw [a.1])).trans a.2.1, (a.2.2.1).ss s, (s.2.2 _ _ (by rw [a.1])).trans a.2.2.2.1, (a.2.2.2.2.1).ss s, (s.2.2 _ _ (by rw [a.1])).trans a.2.2.2.2.2.1, (a.2.2.2.2.2.2.1).ss s, (s.2.2 _ _ (by rw [a.1])).trans a.2.2.2.2.2.2.2.1, by rw [s.2.1]; exact a.2.2.2.2.2.2.2.2⟩
def QX (h : AH) (t : Nat) : Prop := hk h t = (0, 4) ∧ hr h t 0 = some (t + 1) ∧ hk h (t + 1) = (3, 60) ∧ hr h t 2 = some (t + 2) ∧ hk h (t + 2) = (3, 30) ∧ hr h t 3 = some (t + 3) ∧ hk h (t + 3) = (1, 30)
theorem QX.ss {h h' : AH} {t : Nat} (a : QX h t) (s : SS h h') : QX h' t := ⟨by rw [s.2.1]; exact a.1, (s.2.2 _ _ (by rw [a.1])).trans a.2.1, by rw [s.2.1]; exact a.2.2.1, (s.2.2 _ _ (by rw [a.1])).trans a.2.2.2.1, by rw [s.2.1]; exact a.2.2.2.2.1, (s.2.2 _ _ (by rw [a.1])).trans a.2.2.2.2.2.1, by rw [s.2.1]; exact a.2.2.2.2.2.2⟩
def QH (h : AH) (t : Nat) : Prop := hk h t = (0, 0) ∧ hr h t 0 = some (t + 1) ∧ hk h (t + 1) = (4, 4)
theorem QH.ss {h h' : AH} {t : Nat} (a : QH h t) (s : SS h h') : QH h' t := ⟨by rw [s.2.1]; exact a.1, (s.2.2 _ _ (by rw [a.1])).trans a.2.1, by rw [s.2.1]; exact a.2.2⟩
def QM (h : AH) : Prop := hk h 1 = (0, 6) ∧ hr h 1 0 = some 2 ∧ QS h 2 ∧ hr h 1 1 = some 14 ∧ QS h 14 ∧ hr h 1 2 = some 26 ∧ QS h 26 ∧ hr h 1 3 = some 38 ∧ QS h 38 ∧ hr h 1 5 = some 50 ∧ QH h 50 ∧ hr h 1 6 = some 100 ∧ QX h 100
theorem QM.ss {h h' : AH} (a : QM h) (s : SS h h') : QM h' := ⟨by rw [s.2.1]; exact a.1, (s.2.2 _ _ (by rw [a.1])).trans a.2.1, (a.2.2.1).ss s, (s.2.2 _ _ (by rw [a.1])).trans a.2.2.2.1, (a.2.2.2.2.1).ss s, (s.2.2 _ _ (by rw [a.1])).trans a.2.2.2.2.2.1, (a.2.2.2.2.2.2.1).ss s, (s.2.2 _ _ (by rw [a.1])).trans a.2.2.2.2.2.2.2.1, (a.2.2.2.2.2.2.2.2.1).ss s, (s.2.2 _ _ (by rw [a.1])).trans a.2.2.2.2.2.2.2.2.2.1, (a.2.2.2.2.2.2.2.2.2.2.1).ss s, (s.2.2 _ _ (by rw [a.1])).trans a.2.2.2.2.2.2.2.2.2.2.2.1, (a.2.2.2.2.2.2.2.2.2.2.2.2).ss s⟩
def QZ (h : AH) : Prop := hk h 104 = (0, 7) ∧ hr h 104 0 = some 105 ∧ hk h 105 = (1, 293) ∧ hr h 104 1 = some 106 ∧ hk h 106 = (1, 293) ∧ hr h 104 2 = some 107 ∧ hk h 107 = (1, 1172) ∧ hr h 104 4 = some 108 ∧ hk h 108 = (1, 293) ∧ hr h 104 6 = some 109 ∧ hk h 109 = (1, 60) ∧ hr h 104 12 = some 110 ∧ hk h 110 = (1, 20) ∧ hr h 104 14 = some 111 ∧ hk h 111 = (1, 20) ∧ hr h 104 15 = some 112 ∧ hk h 112 = (1, 20) ∧ hr h 104 16 = some 113 ∧ hk h 113 = (1, 31) ∧ hr h 104 17 = some 114 ∧ hk h 114 = (1, 31)
theorem QZ.ss {h h' : AH} (a : QZ h) (s : SS h h') : QZ h' := ⟨by rw [s.2.1]; exact a.1, (s.2.2 _ _ (by rw [a.1])).trans a.2.1, by rw [s.2.1]; exact a.2.2.1, (s.2.2 _ _ (by rw [a.1])).trans a.2.2.2.1, by rw [s.2.1]; exact a.2.2.2.2.1, (s.2.2 _ _ (by rw [a.1])).trans a.2.2.2.2.2.1, by rw [s.2.1]; exact a.2.2.2.2.2.2.1, (s.2.2 _ _ (by rw [a.1])).trans a.2.2.2.2.2.2.2.1, by rw [s.2.1]; exact a.2.2.2.2.2.2.2.2.1, (s.2.2 _ _ (by rw [a.1])).trans a.2.2.2.2.2.2.2.2.2.1, by rw [s.2.1]; exact a.2.2.2.2.2.2.2.2.2.2.1, (s.2.2 _ _ (by rw [a.1])).trans a.2.2.2.2.2.2.2.2.2.2.2.1, by rw [s.2.1]; exact a.2.2.2.2.2.2.2.2.2.2.2.2.1, (s.2.2 _ _ (by rw [a.1])).trans a.2.2.2.2.2.2.2.2.2.2.2.2.2.1, by rw [s.2.1]; exact a.2.2.2.2.2.2.2.2.2.2.2.2.2.2.1, (s.2.2 _ _ (by rw [a.1])).trans a.2.2.2.2.2.2.2.2.2.2.2.2.2.2.2.1, by rw [s.2.1]; exact a.2.2.2.2.2.2.2.2.2.2.2.2.2.2.2.2.1, (s.2.2 _ _ (by rw [a.1])).trans a.2.2.2.2.2.2.2.2.2.2.2.2.2.2.2.2.2.1, by rw [s.2.1]; exact a.2.2.2.2.2.2.2.2.2.2.2.2.2.2.2.2.2.2.1, (s.2.2 _ _ (by rw [a.1])).trans a.2.2.2.2.2.2.2.2.2.2.2.2.2.2.2.2.2.2.2.1, by rw [s.2.1]; exact a.2.2.2.2.2.2.2.2.2.2.2.2.2.2.2.2.2.2.2.2⟩
end
section
set_option maxRecDepth 100000 in
set_option maxHeartbeats 4000000 in
theorem vc_X1_copyFrom {d : Nat} {Q : Option Int → AH → Prop} {h : AH} {p : Nat} {q1 : Nat} (hL : QP h p) (hL1 : QP h q1)
  (g :
    AW m_X1_copyFrom d none Q 15 [some (.inr (some p)), some (.inr (some q1)), some (.inl 0)] [] (up h p 6 (hi h q1 6)) (0, 0)) :
  AM d m_X1_copyFrom [(.inr (some p)), (.inr (some q1))] h Q := by
  refine am_body mo_X1_copyFrom (Nat.le_of_ble_eq_true rfl) ?_
  show AW m_X1_copyFrom d none Q 0 [some (.inr (some p)), some (.inr (some q1)), none] [] h (0, 0)
  obtain ⟨kp, rp_names, kp_names, rp_asksToGo, kp_asksToGo, rp_tellings, kp_tellings, rp_slots, kp_slots, rp_awake, kp_awake, rp_answering, kp_answering⟩ := id hL
  obtain ⟨kq1, rq1_names, kq1_names, rq1_asksToGo, kq1_asksToGo, rq1_tellings, kq1_tellings, rq1_slots, kq1_slots, rq1_awake, kq1_awake, rq1_answering, kq1_answering⟩ := id hL1
  refine aw_aload_n (pc := 0) dX1_copyFrom_0 rfl ?_
  refine aw_ifnonnull (pc := 1) (tgt := 5) dX1_copyFrom_1 (by decide) (fun _ => ?_) (fun q => by cases q)
  refine aw_aload_n (pc := 5) dX1_copyFrom_5 rfl ?_
  refine aw_aload_n (pc := 6) dX1_copyFrom_6 rfl ?_
  refine ax_geti (pc := 7) (v := hi h q1 6) dX1_copyFrom_7 fl_X1_31 (by decide) rfl kq1 rfl ?_
  refine ax_puti (pc := 10) dX1_copyFrom_10 fl_X1_31 (by decide) rfl rfl rfl kp ?_
  refine aw_iconst (pc := 13) dX1_copyFrom_13 ?_
  refine ax_istore_n (pc := 14) (ls' := [some (.inr (some p)), some (.inr (some q1)), some (.inl 0)]) dX1_copyFrom_14 (Nat.le_of_ble_eq_true rfl) rfl ?_
  exact g
set_option maxRecDepth 100000 in
set_option maxHeartbeats 4000000 in
theorem vc_X1_copyFrom_15 {d : Nat} {Q : Option Int → AH → Prop} {h : AH} {p : Nat} {q1 : Nat} {x2 : Int} (hL : QP h p) (hL1 : QP h q1)
  (g :
    ((hi h p 6 ≤ x2 → (
      Q none h
    )) ∧
    (¬ (hi h p 6 ≤ x2) → (
      ((20 ≤ x2 → (
        Q none h
      )) ∧
      (¬ (20 ≤ x2) → (
        (0 ≤ x2 ∧ x2 < 20) ∧
        (hi (up (up (up h (p + 1) x2 (hi h (q1 + 1) x2)) (p + 2) x2 (hi (up h (p + 1) x2 (hi h (q1 + 1) x2)) (q1 + 2) x2)) (p + 3) x2 (hi (up (up h (p + 1) x2 (hi h (q1 + 1) x2)) (p + 2) x2 (hi (up h (p + 1) x2 (hi h (q1 + 1) x2)) (q1 + 2) x2)) (q1 + 3) x2)) (q1 + 5) x2 = 0 ∨ hi (up (up (up h (p + 1) x2 (hi h (q1 + 1) x2)) (p + 2) x2 (hi (up h (p + 1) x2 (hi h (q1 + 1) x2)) (q1 + 2) x2)) (p + 3) x2 (hi (up (up h (p + 1) x2 (hi h (q1 + 1) x2)) (p + 2) x2 (hi (up h (p + 1) x2 (hi h (q1 + 1) x2)) (q1 + 2) x2)) (q1 + 3) x2)) (q1 + 5) x2 = 1) ∧
        (rg (x2 + 1)) ∧
        AW m_X1_copyFrom d none Q 15 [some (.inr (some p)), some (.inr (some q1)), some (.inl (x2 + 1))] [] (up (up (up (up h (p + 1) x2 (hi h (q1 + 1) x2)) (p + 2) x2 (hi (up h (p + 1) x2 (hi h (q1 + 1) x2)) (q1 + 2) x2)) (p + 3) x2 (hi (up (up h (p + 1) x2 (hi h (q1 + 1) x2)) (p + 2) x2 (hi (up h (p + 1) x2 (hi h (q1 + 1) x2)) (q1 + 2) x2)) (q1 + 3) x2)) (p + 5) x2 (hi (up (up (up h (p + 1) x2 (hi h (q1 + 1) x2)) (p + 2) x2 (hi (up h (p + 1) x2 (hi h (q1 + 1) x2)) (q1 + 2) x2)) (p + 3) x2 (hi (up (up h (p + 1) x2 (hi h (q1 + 1) x2)) (p + 2) x2 (hi (up h (p + 1) x2 (hi h (q1 + 1) x2)) (q1 + 2) x2)) (q1 + 3) x2)) (q1 + 5) x2)) (0, 0)
      )))
    )))) :
  AW m_X1_copyFrom d none Q 15 [some (.inr (some p)), some (.inr (some q1)), some (.inl x2)] [] h (0, 0) := by
  obtain ⟨kp, rp_names, kp_names, rp_asksToGo, kp_asksToGo, rp_tellings, kp_tellings, rp_slots, kp_slots, rp_awake, kp_awake, rp_answering, kp_answering⟩ := id hL
  obtain ⟨kq1, rq1_names, kq1_names, rq1_asksToGo, kq1_asksToGo, rq1_tellings, kq1_tellings, rq1_slots, kq1_slots, rq1_awake, kq1_awake, rq1_answering, kq1_answering⟩ := id hL1
  refine aw_iload_n (pc := 15) dX1_copyFrom_15 rfl ?_
  refine aw_aload_n (pc := 16) dX1_copyFrom_16 rfl ?_
  refine ax_geti (pc := 17) (v := hi h p 6) dX1_copyFrom_17 fl_X1_31 (by decide) rfl kp rfl ?_
  refine aw_icmp_ge (pc := 20) (tgt := 83) dX1_copyFrom_20 (by decide) (fun c1 => ?_) (fun c1 => ?_)
  · replace g := g.1 c1
    exact aw_return (pc := 83) dX1_copyFrom_83 rfl g (by decide) (by decide)
  · replace g := g.2 c1
    refine aw_iload_n (pc := 23) dX1_copyFrom_23 rfl ?_
    refine aw_bipush (pc := 24) dX1_copyFrom_24 ?_
    refine aw_icmp_ge (pc := 26) (tgt := 83) dX1_copyFrom_26 (by decide) (fun c2 => ?_) (fun c2 => ?_)
    · replace g := g.1 c2
      exact aw_return (pc := 83) dX1_copyFrom_83 rfl g (by decide) (by decide)
    · replace g := g.2 c2
      refine aw_aload_n (pc := 29) dX1_copyFrom_29 rfl ?_
      refine aw_getr (pc := 30) (r := some (p + 1)) dX1_copyFrom_30 fl_X1_9 (by decide) rfl kp rp_names ?_
      refine aw_iload_n (pc := 33) dX1_copyFrom_33 rfl ?_
      refine aw_aload_n (pc := 34) dX1_copyFrom_34 rfl ?_
      refine aw_getr (pc := 35) (r := some (q1 + 1)) dX1_copyFrom_35 fl_X1_9 (by decide) rfl kq1 rq1_names ?_
      refine aw_iload_n (pc := 38) dX1_copyFrom_38 rfl ?_
      obtain ⟨s3, g⟩ := g
      refine ax_iaload (pc := 39) (n := 20) (v := hi h (q1 + 1) x2) dX1_copyFrom_39 kq1_names s3 rfl ?_
      refine ax_iastore (pc := 40) (n := 20) dX1_copyFrom_40 kp_names s3 ?_
      refine aw_aload_n (pc := 41) dX1_copyFrom_41 rfl ?_
      refine aw_getr (pc := 42) (r := some (p + 2)) dX1_copyFrom_42 fl_X1_15 (by decide) rfl kp rp_asksToGo ?_
      refine aw_iload_n (pc := 45) dX1_copyFrom_45 rfl ?_
      refine aw_aload_n (pc := 46) dX1_copyFrom_46 rfl ?_
      refine aw_getr (pc := 47) (r := some (q1 + 2)) dX1_copyFrom_47 fl_X1_15 (by decide) rfl kq1 rq1_asksToGo ?_
      refine aw_iload_n (pc := 50) dX1_copyFrom_50 rfl ?_
      refine ax_iaload (pc := 51) (n := 20) (v := hi (up h (p + 1) x2 (hi h (q1 + 1) x2)) (q1 + 2) x2) dX1_copyFrom_51 kq1_asksToGo s3 rfl ?_
      refine ax_iastore (pc := 52) (n := 20) dX1_copyFrom_52 kp_asksToGo s3 ?_
      refine aw_aload_n (pc := 53) dX1_copyFrom_53 rfl ?_
      refine aw_getr (pc := 54) (r := some (p + 3)) dX1_copyFrom_54 fl_X1_18 (by decide) rfl kp rp_tellings ?_
      refine aw_iload_n (pc := 57) dX1_copyFrom_57 rfl ?_
      refine aw_aload_n (pc := 58) dX1_copyFrom_58 rfl ?_
      refine aw_getr (pc := 59) (r := some (q1 + 3)) dX1_copyFrom_59 fl_X1_18 (by decide) rfl kq1 rq1_tellings ?_
      refine aw_iload_n (pc := 62) dX1_copyFrom_62 rfl ?_
      refine ax_iaload (pc := 63) (n := 20) (v := hi (up (up h (p + 1) x2 (hi h (q1 + 1) x2)) (p + 2) x2 (hi (up h (p + 1) x2 (hi h (q1 + 1) x2)) (q1 + 2) x2)) (q1 + 3) x2) dX1_copyFrom_63 kq1_tellings s3 rfl ?_
      refine ax_iastore (pc := 64) (n := 20) dX1_copyFrom_64 kp_tellings s3 ?_
      refine aw_aload_n (pc := 65) dX1_copyFrom_65 rfl ?_
      refine aw_getr (pc := 66) (r := some (p + 5)) dX1_copyFrom_66 fl_X1_24 (by decide) rfl kp rp_awake ?_
      refine aw_iload_n (pc := 69) dX1_copyFrom_69 rfl ?_
      refine aw_aload_n (pc := 70) dX1_copyFrom_70 rfl ?_
      refine aw_getr (pc := 71) (r := some (q1 + 5)) dX1_copyFrom_71 fl_X1_24 (by decide) rfl kq1 rq1_awake ?_
      refine aw_iload_n (pc := 74) dX1_copyFrom_74 rfl ?_
      refine ax_baload (pc := 75) (n := 20) (v := hi (up (up (up h (p + 1) x2 (hi h (q1 + 1) x2)) (p + 2) x2 (hi (up h (p + 1) x2 (hi h (q1 + 1) x2)) (q1 + 2) x2)) (p + 3) x2 (hi (up (up h (p + 1) x2 (hi h (q1 + 1) x2)) (p + 2) x2 (hi (up h (p + 1) x2 (hi h (q1 + 1) x2)) (q1 + 2) x2)) (q1 + 3) x2)) (q1 + 5) x2) dX1_copyFrom_75 kq1_awake s3 rfl ?_
      obtain ⟨s4, g⟩ := g
      refine ax_bastore (pc := 76) (n := 20) dX1_copyFrom_76 kp_awake s3 s4 ?_
      obtain ⟨s5, g⟩ := g
      refine ax_iinc (pc := 77) (v' := x2 + 1) (ls' := [some (.inr (some p)), some (.inr (some q1)), some (.inl (x2 + 1))]) dX1_copyFrom_77 rfl s5 rfl rfl ?_
      refine aw_goto (pc := 80) (tgt := 15) dX1_copyFrom_80 (by decide) ?_
      exact g
set_option maxRecDepth 100000 in
set_option maxHeartbeats 4000000 in
theorem vc_X1_cards {d : Nat} {Q : Option Int → AH → Prop} {h : AH} {p : Nat} (hL : QP h p)
  (g :
    Q (some (hi h p 6)) h) :
  AM d m_X1_cards [(.inr (some p))] h Q := by
  refine am_body mo_X1_cards (Nat.le_of_ble_eq_true rfl) ?_
  show AW m_X1_cards d none Q 0 [some (.inr (some p))] [] h (0, 0)
  obtain ⟨kp, rp_names, kp_names, rp_asksToGo, kp_asksToGo, rp_tellings, kp_tellings, rp_slots, kp_slots, rp_awake, kp_awake, rp_answering, kp_answering⟩ := id hL
  refine aw_aload_n (pc := 0) dX1_cards_0 rfl ?_
  refine ax_geti (pc := 1) (v := hi h p 6) dX1_cards_1 fl_X1_31 (by decide) rfl kp rfl ?_
  exact ax_ireturn (pc := 4) dX1_cards_4 rfl g (by decide) (by decide)
set_option maxRecDepth 100000 in
set_option maxHeartbeats 4000000 in
theorem vc_X1_isCard {d : Nat} {Q : Option Int → AH → Prop} {h : AH} {p : Nat} {x1 : Int} (hL : QP h p)
  (g :
    ((x1 < 0 → (
      Q (some 0) h
    )) ∧
    (¬ (x1 < 0) → (
      ((hi h p 6 ≤ x1 → (
        Q (some 0) h
      )) ∧
      (¬ (hi h p 6 ≤ x1) → (
        ((20 ≤ x1 → (
          Q (some 0) h
        )) ∧
        (¬ (20 ≤ x1) → (
          Q (some 1) h
        )))
      )))
    )))) :
  AM d m_X1_isCard [(.inr (some p)), (.inl x1)] h Q := by
  refine am_body mo_X1_isCard (Nat.le_of_ble_eq_true rfl) ?_
  show AW m_X1_isCard d none Q 0 [some (.inr (some p)), some (.inl x1)] [] h (0, 0)
  obtain ⟨kp, rp_names, kp_names, rp_asksToGo, kp_asksToGo, rp_tellings, kp_tellings, rp_slots, kp_slots, rp_awake, kp_awake, rp_answering, kp_answering⟩ := id hL
  refine aw_iload_n (pc := 0) dX1_isCard_0 rfl ?_
  refine aw_if_lt (pc := 1) (tgt := 22) dX1_isCard_1 (by decide) (fun c1 => ?_) (fun c1 => ?_)
  · replace g := g.1 c1
    refine aw_iconst (pc := 22) dX1_isCard_22 ?_
    exact aw_ireturn (pc := 23) dX1_isCard_23 (by simp [okr]) g (by decide) (by decide)
  · replace g := g.2 c1
    refine aw_iload_n (pc := 4) dX1_isCard_4 rfl ?_
    refine aw_aload_n (pc := 5) dX1_isCard_5 rfl ?_
    refine ax_geti (pc := 6) (v := hi h p 6) dX1_isCard_6 fl_X1_31 (by decide) rfl kp rfl ?_
    refine aw_icmp_ge (pc := 9) (tgt := 22) dX1_isCard_9 (by decide) (fun c2 => ?_) (fun c2 => ?_)
    · replace g := g.1 c2
      refine aw_iconst (pc := 22) dX1_isCard_22 ?_
      exact aw_ireturn (pc := 23) dX1_isCard_23 (by simp [okr]) g (by decide) (by decide)
    · replace g := g.2 c2
      refine aw_iload_n (pc := 12) dX1_isCard_12 rfl ?_
      refine aw_bipush (pc := 13) dX1_isCard_13 ?_
      refine aw_icmp_ge (pc := 15) (tgt := 22) dX1_isCard_15 (by decide) (fun c3 => ?_) (fun c3 => ?_)
      · replace g := g.1 c3
        refine aw_iconst (pc := 22) dX1_isCard_22 ?_
        exact aw_ireturn (pc := 23) dX1_isCard_23 (by simp [okr]) g (by decide) (by decide)
      · replace g := g.2 c3
        refine aw_iconst (pc := 18) dX1_isCard_18 ?_
        refine aw_goto (pc := 19) (tgt := 23) dX1_isCard_19 (by decide) ?_
        exact aw_ireturn (pc := 23) dX1_isCard_23 (by simp [okr]) g (by decide) (by decide)
set_option maxRecDepth 100000 in
set_option maxHeartbeats 4000000 in
theorem vc_X1_placeOf {d : Nat} {Q : Option Int → AH → Prop} {h : AH} {p : Nat} {x1 : Int} (hL : QP h p)
  (g :
    AW m_X1_placeOf d none Q 2 [some (.inr (some p)), some (.inl x1), some (.inl 0)] [] h (0, 0)) :
  AM d m_X1_placeOf [(.inr (some p)), (.inl x1)] h Q := by
  refine am_body mo_X1_placeOf (Nat.le_of_ble_eq_true rfl) ?_
  show AW m_X1_placeOf d none Q 0 [some (.inr (some p)), some (.inl x1), none] [] h (0, 0)
  obtain ⟨kp, rp_names, kp_names, rp_asksToGo, kp_asksToGo, rp_tellings, kp_tellings, rp_slots, kp_slots, rp_awake, kp_awake, rp_answering, kp_answering⟩ := id hL
  refine aw_iconst (pc := 0) dX1_placeOf_0 ?_
  refine ax_istore_n (pc := 1) (ls' := [some (.inr (some p)), some (.inl x1), some (.inl 0)]) dX1_placeOf_1 (Nat.le_of_ble_eq_true rfl) rfl ?_
  exact g
set_option maxRecDepth 100000 in
set_option maxHeartbeats 4000000 in
theorem vc_X1_placeOf_2 {d : Nat} {Q : Option Int → AH → Prop} {h : AH} {p : Nat} {x1 x2 : Int} (hL : QP h p)
  (g :
    ((hi h p 6 ≤ x2 → (
      Q (some (-1)) h
    )) ∧
    (¬ (hi h p 6 ≤ x2) → (
      ((20 ≤ x2 → (
        Q (some (-1)) h
      )) ∧
      (¬ (20 ≤ x2) → (
        (0 ≤ x2 ∧ x2 < 20) ∧
        ((¬ hi h (p + 1) x2 = x1 → (
          (rg (x2 + 1)) ∧
          AW m_X1_placeOf d none Q 2 [some (.inr (some p)), some (.inl x1), some (.inl (x2 + 1))] [] h (0, 0)
        )) ∧
        (¬ (¬ hi h (p + 1) x2 = x1) → (
          Q (some x2) h
        )))
      )))
    )))) :
  AW m_X1_placeOf d none Q 2 [some (.inr (some p)), some (.inl x1), some (.inl x2)] [] h (0, 0) := by
  obtain ⟨kp, rp_names, kp_names, rp_asksToGo, kp_asksToGo, rp_tellings, kp_tellings, rp_slots, kp_slots, rp_awake, kp_awake, rp_answering, kp_answering⟩ := id hL
  refine aw_iload_n (pc := 2) dX1_placeOf_2 rfl ?_
  refine aw_aload_n (pc := 3) dX1_placeOf_3 rfl ?_
  refine ax_geti (pc := 4) (v := hi h p 6) dX1_placeOf_4 fl_X1_31 (by decide) rfl kp rfl ?_
  refine aw_icmp_ge (pc := 7) (tgt := 34) dX1_placeOf_7 (by decide) (fun c1 => ?_) (fun c1 => ?_)
  · replace g := g.1 c1
    refine aw_iconst (pc := 34) dX1_placeOf_34 ?_
    exact ax_ireturn (pc := 35) dX1_placeOf_35 rfl g (by decide) (by decide)
  · replace g := g.2 c1
    refine aw_iload_n (pc := 10) dX1_placeOf_10 rfl ?_
    refine aw_bipush (pc := 11) dX1_placeOf_11 ?_
    refine aw_icmp_ge (pc := 13) (tgt := 34) dX1_placeOf_13 (by decide) (fun c2 => ?_) (fun c2 => ?_)
    · replace g := g.1 c2
      refine aw_iconst (pc := 34) dX1_placeOf_34 ?_
      exact ax_ireturn (pc := 35) dX1_placeOf_35 rfl g (by decide) (by decide)
    · replace g := g.2 c2
      refine aw_aload_n (pc := 16) dX1_placeOf_16 rfl ?_
      refine aw_getr (pc := 17) (r := some (p + 1)) dX1_placeOf_17 fl_X1_9 (by decide) rfl kp rp_names ?_
      refine aw_iload_n (pc := 20) dX1_placeOf_20 rfl ?_
      obtain ⟨s3, g⟩ := g
      refine ax_iaload (pc := 21) (n := 20) (v := hi h (p + 1) x2) dX1_placeOf_21 kp_names s3 rfl ?_
      refine aw_iload_n (pc := 22) dX1_placeOf_22 rfl ?_
      refine aw_icmp_ne (pc := 23) (tgt := 28) dX1_placeOf_23 (by decide) (fun c4 => ?_) (fun c4 => ?_)
      · replace g := g.1 c4
        obtain ⟨s5, g⟩ := g
        refine ax_iinc (pc := 28) (v' := x2 + 1) (ls' := [some (.inr (some p)), some (.inl x1), some (.inl (x2 + 1))]) dX1_placeOf_28 rfl s5 rfl rfl ?_
        refine aw_goto (pc := 31) (tgt := 2) dX1_placeOf_31 (by decide) ?_
        exact g
      · replace g := g.2 c4
        refine aw_iload_n (pc := 26) dX1_placeOf_26 rfl ?_
        exact ax_ireturn (pc := 27) dX1_placeOf_27 rfl g (by decide) (by decide)
set_option maxRecDepth 100000 in
set_option maxHeartbeats 4000000 in
theorem vc_X1_nameAt {d : Nat} {Q : Option Int → AH → Prop} {h : AH} {p : Nat} {x1 : Int} (hd : 1 ≤ d) (hL : QP h p)
  (g :
    AM (d - 1) m_X1_isCard [(.inr (some p)), (.inl x1)] h (fun r h1 => 
      ∃ v2, r = some v2 ∧ SS h h1 ∧
      ((v2 = 0 → (
        Q (some (-5)) h1
      )) ∧
      (¬ (v2 = 0) → (
        (0 ≤ x1 ∧ x1 < 20) ∧
        Q (some (hi h1 (p + 1) x1)) h1
      ))))) :
  AM d m_X1_nameAt [(.inr (some p)), (.inl x1)] h Q := by
  refine am_body mo_X1_nameAt (Nat.le_of_ble_eq_true rfl) ?_
  show AW m_X1_nameAt d none Q 0 [some (.inr (some p)), some (.inl x1)] [] h (0, 0)
  obtain ⟨kp, rp_names, kp_names, rp_asksToGo, kp_asksToGo, rp_tellings, kp_tellings, rp_slots, kp_slots, rp_awake, kp_awake, rp_answering, kp_answering⟩ := id hL
  refine aw_aload_n (pc := 0) dX1_nameAt_0 rfl ?_
  refine aw_iload_n (pc := 1) dX1_nameAt_1 rfl ?_
  refine aw_invV (pc := 2) (md' := m_X1_isCard) (ci := 1) (as := [(.inl x1)]) dX1_nameAt_2 mo_X1_isCard im_X1_isCard se_X1_isCard ml_X1_35 rfl kp rfl hd (Nat.le_of_ble_eq_true rfl) (Nat.le_of_ble_eq_true rfl) (Nat.le_of_ble_eq_true rfl) ?_
  refine am_mono g (fun _ h1 _ ok_h1 g => ?_)
  obtain ⟨v2, rfl, ss_h1, g⟩ := g
  have hL := QP.ss (h := h) hL ss_h1
  obtain ⟨kp, rp_names, kp_names, rp_asksToGo, kp_asksToGo, rp_tellings, kp_tellings, rp_slots, kp_slots, rp_awake, kp_awake, rp_answering, kp_answering⟩ := id hL
  show AW m_X1_nameAt d none Q 5 [some (.inr (some p)), some (.inl x1)] [(.inl v2)] h1 (0, 0)
  refine aw_if_eq (pc := 5) (tgt := 17) dX1_nameAt_5 (by decide) (fun c3 => ?_) (fun c3 => ?_)
  · replace g := g.1 c3
    refine aw_bipush (pc := 17) dX1_nameAt_17 ?_
    exact ax_ireturn (pc := 19) dX1_nameAt_19 rfl g (by decide) (by decide)
  · replace g := g.2 c3
    refine aw_aload_n (pc := 8) dX1_nameAt_8 rfl ?_
    refine aw_getr (pc := 9) (r := some (p + 1)) dX1_nameAt_9 fl_X1_9 (by decide) rfl kp rp_names ?_
    refine aw_iload_n (pc := 12) dX1_nameAt_12 rfl ?_
    obtain ⟨s4, g⟩ := g
    refine ax_iaload (pc := 13) (n := 20) (v := hi h1 (p + 1) x1) dX1_nameAt_13 kp_names s4 rfl ?_
    refine aw_goto (pc := 14) (tgt := 19) dX1_nameAt_14 (by decide) ?_
    exact ax_ireturn (pc := 19) dX1_nameAt_19 rfl g (by decide) (by decide)
set_option maxRecDepth 100000 in
set_option maxHeartbeats 4000000 in
theorem vc_X1_isAwake {d : Nat} {Q : Option Int → AH → Prop} {h : AH} {p : Nat} {x1 : Int} (hd : 1 ≤ d) (hL : QP h p)
  (g :
    AM (d - 1) m_X1_isCard [(.inr (some p)), (.inl x1)] h (fun r h1 => 
      ∃ v2, r = some v2 ∧ SS h h1 ∧
      ((v2 = 0 → (
        Q (some 0) h1
      )) ∧
      (¬ (v2 = 0) → (
        (0 ≤ x1 ∧ x1 < 20) ∧
        ((hi h1 (p + 5) x1 = 0 → (
          Q (some 0) h1
        )) ∧
        (¬ (hi h1 (p + 5) x1 = 0) → (
          Q (some 1) h1
        )))
      ))))) :
  AM d m_X1_isAwake [(.inr (some p)), (.inl x1)] h Q := by
  refine am_body mo_X1_isAwake (Nat.le_of_ble_eq_true rfl) ?_
  show AW m_X1_isAwake d none Q 0 [some (.inr (some p)), some (.inl x1)] [] h (0, 0)
  obtain ⟨kp, rp_names, kp_names, rp_asksToGo, kp_asksToGo, rp_tellings, kp_tellings, rp_slots, kp_slots, rp_awake, kp_awake, rp_answering, kp_answering⟩ := id hL
  refine aw_aload_n (pc := 0) dX1_isAwake_0 rfl ?_
  refine aw_iload_n (pc := 1) dX1_isAwake_1 rfl ?_
  refine aw_invV (pc := 2) (md' := m_X1_isCard) (ci := 1) (as := [(.inl x1)]) dX1_isAwake_2 mo_X1_isCard im_X1_isCard se_X1_isCard ml_X1_35 rfl kp rfl hd (Nat.le_of_ble_eq_true rfl) (Nat.le_of_ble_eq_true rfl) (Nat.le_of_ble_eq_true rfl) ?_
  refine am_mono g (fun _ h1 _ ok_h1 g => ?_)
  obtain ⟨v2, rfl, ss_h1, g⟩ := g
  have hL := QP.ss (h := h) hL ss_h1
  obtain ⟨kp, rp_names, kp_names, rp_asksToGo, kp_asksToGo, rp_tellings, kp_tellings, rp_slots, kp_slots, rp_awake, kp_awake, rp_answering, kp_answering⟩ := id hL
  show AW m_X1_isAwake d none Q 5 [some (.inr (some p)), some (.inl x1)] [(.inl v2)] h1 (0, 0)
  refine aw_if_eq (pc := 5) (tgt := 21) dX1_isAwake_5 (by decide) (fun c3 => ?_) (fun c3 => ?_)
  · replace g := g.1 c3
    refine aw_iconst (pc := 21) dX1_isAwake_21 ?_
    exact aw_ireturn (pc := 22) dX1_isAwake_22 (by simp [okr]) g (by decide) (by decide)
  · replace g := g.2 c3
    refine aw_aload_n (pc := 8) dX1_isAwake_8 rfl ?_
    refine aw_getr (pc := 9) (r := some (p + 5)) dX1_isAwake_9 fl_X1_24 (by decide) rfl kp rp_awake ?_
    refine aw_iload_n (pc := 12) dX1_isAwake_12 rfl ?_
    obtain ⟨s4, g⟩ := g
    refine ax_baload (pc := 13) (n := 20) (v := hi h1 (p + 5) x1) dX1_isAwake_13 kp_awake s4 rfl ?_
    refine aw_if_eq (pc := 14) (tgt := 21) dX1_isAwake_14 (by decide) (fun c5 => ?_) (fun c5 => ?_)
    · replace g := g.1 c5
      refine aw_iconst (pc := 21) dX1_isAwake_21 ?_
      exact aw_ireturn (pc := 22) dX1_isAwake_22 (by simp [okr]) g (by decide) (by decide)
    · replace g := g.2 c5
      refine aw_iconst (pc := 17) dX1_isAwake_17 ?_
      refine aw_goto (pc := 18) (tgt := 22) dX1_isAwake_18 (by decide) ?_
      exact aw_ireturn (pc := 22) dX1_isAwake_22 (by simp [okr]) g (by decide) (by decide)
set_option maxRecDepth 100000 in
set_option maxHeartbeats 4000000 in
theorem vc_X1_asksToGo {d : Nat} {Q : Option Int → AH → Prop} {h : AH} {p : Nat} {x1 : Int} (hd : 1 ≤ d) (hL : QP h p)
  (g :
    AM (d - 1) m_X1_isCard [(.inr (some p)), (.inl x1)] h (fun r h1 => 
      ∃ v2, r = some v2 ∧ SS h h1 ∧
      ((v2 = 0 → (
        Q (some 0) h1
      )) ∧
      (¬ (v2 = 0) → (
        (0 ≤ x1 ∧ x1 < 20) ∧
        Q (some (hi h1 (p + 2) x1)) h1
      ))))) :
  AM d m_X1_asksToGo [(.inr (some p)), (.inl x1)] h Q := by
  refine am_body mo_X1_asksToGo (Nat.le_of_ble_eq_true rfl) ?_
  show AW m_X1_asksToGo d none Q 0 [some (.inr (some p)), some (.inl x1)] [] h (0, 0)
  obtain ⟨kp, rp_names, kp_names, rp_asksToGo, kp_asksToGo, rp_tellings, kp_tellings, rp_slots, kp_slots, rp_awake, kp_awake, rp_answering, kp_answering⟩ := id hL
  refine aw_aload_n (pc := 0) dX1_asksToGo_0 rfl ?_
  refine aw_iload_n (pc := 1) dX1_asksToGo_1 rfl ?_
  refine aw_invV (pc := 2) (md' := m_X1_isCard) (ci := 1) (as := [(.inl x1)]) dX1_asksToGo_2 mo_X1_isCard im_X1_isCard se_X1_isCard ml_X1_35 rfl kp rfl hd (Nat.le_of_ble_eq_true rfl) (Nat.le_of_ble_eq_true rfl) (Nat.le_of_ble_eq_true rfl) ?_
  refine am_mono g (fun _ h1 _ ok_h1 g => ?_)
  obtain ⟨v2, rfl, ss_h1, g⟩ := g
  have hL := QP.ss (h := h) hL ss_h1
  obtain ⟨kp, rp_names, kp_names, rp_asksToGo, kp_asksToGo, rp_tellings, kp_tellings, rp_slots, kp_slots, rp_awake, kp_awake, rp_answering, kp_answering⟩ := id hL
  show AW m_X1_asksToGo d none Q 5 [some (.inr (some p)), some (.inl x1)] [(.inl v2)] h1 (0, 0)
  refine aw_if_eq (pc := 5) (tgt := 17) dX1_asksToGo_5 (by decide) (fun c3 => ?_) (fun c3 => ?_)
  · replace g := g.1 c3
    refine aw_iconst (pc := 17) dX1_asksToGo_17 ?_
    exact ax_ireturn (pc := 18) dX1_asksToGo_18 rfl g (by decide) (by decide)
  · replace g := g.2 c3
    refine aw_aload_n (pc := 8) dX1_asksToGo_8 rfl ?_
    refine aw_getr (pc := 9) (r := some (p + 2)) dX1_asksToGo_9 fl_X1_15 (by decide) rfl kp rp_asksToGo ?_
    refine aw_iload_n (pc := 12) dX1_asksToGo_12 rfl ?_
    obtain ⟨s4, g⟩ := g
    refine ax_iaload (pc := 13) (n := 20) (v := hi h1 (p + 2) x1) dX1_asksToGo_13 kp_asksToGo s4 rfl ?_
    refine aw_goto (pc := 14) (tgt := 18) dX1_asksToGo_14 (by decide) ?_
    exact ax_ireturn (pc := 18) dX1_asksToGo_18 rfl g (by decide) (by decide)
set_option maxRecDepth 100000 in
set_option maxHeartbeats 4000000 in
theorem vc_X1_tellings {d : Nat} {Q : Option Int → AH → Prop} {h : AH} {p : Nat} {x1 : Int} (hd : 1 ≤ d) (hL : QP h p)
  (g :
    AM (d - 1) m_X1_isCard [(.inr (some p)), (.inl x1)] h (fun r h1 => 
      ∃ v2, r = some v2 ∧ SS h h1 ∧
      ((v2 = 0 → (
        Q (some 0) h1
      )) ∧
      (¬ (v2 = 0) → (
        (0 ≤ x1 ∧ x1 < 20) ∧
        Q (some (hi h1 (p + 3) x1)) h1
      ))))) :
  AM d m_X1_tellings [(.inr (some p)), (.inl x1)] h Q := by
  refine am_body mo_X1_tellings (Nat.le_of_ble_eq_true rfl) ?_
  show AW m_X1_tellings d none Q 0 [some (.inr (some p)), some (.inl x1)] [] h (0, 0)
  obtain ⟨kp, rp_names, kp_names, rp_asksToGo, kp_asksToGo, rp_tellings, kp_tellings, rp_slots, kp_slots, rp_awake, kp_awake, rp_answering, kp_answering⟩ := id hL
  refine aw_aload_n (pc := 0) dX1_tellings_0 rfl ?_
  refine aw_iload_n (pc := 1) dX1_tellings_1 rfl ?_
  refine aw_invV (pc := 2) (md' := m_X1_isCard) (ci := 1) (as := [(.inl x1)]) dX1_tellings_2 mo_X1_isCard im_X1_isCard se_X1_isCard ml_X1_35 rfl kp rfl hd (Nat.le_of_ble_eq_true rfl) (Nat.le_of_ble_eq_true rfl) (Nat.le_of_ble_eq_true rfl) ?_
  refine am_mono g (fun _ h1 _ ok_h1 g => ?_)
  obtain ⟨v2, rfl, ss_h1, g⟩ := g
  have hL := QP.ss (h := h) hL ss_h1
  obtain ⟨kp, rp_names, kp_names, rp_asksToGo, kp_asksToGo, rp_tellings, kp_tellings, rp_slots, kp_slots, rp_awake, kp_awake, rp_answering, kp_answering⟩ := id hL
  show AW m_X1_tellings d none Q 5 [some (.inr (some p)), some (.inl x1)] [(.inl v2)] h1 (0, 0)
  refine aw_if_eq (pc := 5) (tgt := 17) dX1_tellings_5 (by decide) (fun c3 => ?_) (fun c3 => ?_)
  · replace g := g.1 c3
    refine aw_iconst (pc := 17) dX1_tellings_17 ?_
    exact ax_ireturn (pc := 18) dX1_tellings_18 rfl g (by decide) (by decide)
  · replace g := g.2 c3
    refine aw_aload_n (pc := 8) dX1_tellings_8 rfl ?_
    refine aw_getr (pc := 9) (r := some (p + 3)) dX1_tellings_9 fl_X1_18 (by decide) rfl kp rp_tellings ?_
    refine aw_iload_n (pc := 12) dX1_tellings_12 rfl ?_
    obtain ⟨s4, g⟩ := g
    refine ax_iaload (pc := 13) (n := 20) (v := hi h1 (p + 3) x1) dX1_tellings_13 kp_tellings s4 rfl ?_
    refine aw_goto (pc := 14) (tgt := 18) dX1_tellings_14 (by decide) ?_
    exact ax_ireturn (pc := 18) dX1_tellings_18 rfl g (by decide) (by decide)
set_option maxRecDepth 100000 in
set_option maxHeartbeats 4000000 in
theorem vc_X1_sharedBits {d : Nat} {Q : Option Int → AH → Prop} {h : AH} {p : Nat} {x1 : Int} (hd : 1 ≤ d) (hL : QP h p)
  (g :
    AM (d - 1) m_X1_isCard [(.inr (some p)), (.inl x1)] h (fun r h1 => 
      ∃ v2, r = some v2 ∧ SS h h1 ∧
      ((¬ v2 = 0 → (
        AW m_X1_sharedBits d none Q 16 [some (.inr (some p)), some (.inl x1), some (.inl (-5)), some (.inl 0)] [] h1 (0, 0)
      )) ∧
      (¬ (¬ v2 = 0) → (
        Q (some (-5)) h1
      ))))) :
  AM d m_X1_sharedBits [(.inr (some p)), (.inl x1)] h Q := by
  refine am_body mo_X1_sharedBits (Nat.le_of_ble_eq_true rfl) ?_
  show AW m_X1_sharedBits d none Q 0 [some (.inr (some p)), some (.inl x1), none, none] [] h (0, 0)
  obtain ⟨kp, rp_names, kp_names, rp_asksToGo, kp_asksToGo, rp_tellings, kp_tellings, rp_slots, kp_slots, rp_awake, kp_awake, rp_answering, kp_answering⟩ := id hL
  refine aw_aload_n (pc := 0) dX1_sharedBits_0 rfl ?_
  refine aw_iload_n (pc := 1) dX1_sharedBits_1 rfl ?_
  refine aw_invV (pc := 2) (md' := m_X1_isCard) (ci := 1) (as := [(.inl x1)]) dX1_sharedBits_2 mo_X1_isCard im_X1_isCard se_X1_isCard ml_X1_35 rfl kp rfl hd (Nat.le_of_ble_eq_true rfl) (Nat.le_of_ble_eq_true rfl) (Nat.le_of_ble_eq_true rfl) ?_
  refine am_mono g (fun _ h1 _ ok_h1 g => ?_)
  obtain ⟨v2, rfl, ss_h1, g⟩ := g
  have hL := QP.ss (h := h) hL ss_h1
  obtain ⟨kp, rp_names, kp_names, rp_asksToGo, kp_asksToGo, rp_tellings, kp_tellings, rp_slots, kp_slots, rp_awake, kp_awake, rp_answering, kp_answering⟩ := id hL
  show AW m_X1_sharedBits d none Q 5 [some (.inr (some p)), some (.inl x1), none, none] [(.inl v2)] h1 (0, 0)
  refine aw_if_ne (pc := 5) (tgt := 11) dX1_sharedBits_5 (by decide) (fun c3 => ?_) (fun c3 => ?_)
  · replace g := g.1 c3
    refine aw_bipush (pc := 11) dX1_sharedBits_11 ?_
    refine ax_istore_n (pc := 13) (ls' := [some (.inr (some p)), some (.inl x1), some (.inl (-5)), none]) dX1_sharedBits_13 (Nat.le_of_ble_eq_true rfl) rfl ?_
    refine aw_iconst (pc := 14) dX1_sharedBits_14 ?_
    refine ax_istore_n (pc := 15) (ls' := [some (.inr (some p)), some (.inl x1), some (.inl (-5)), some (.inl 0)]) dX1_sharedBits_15 (Nat.le_of_ble_eq_true rfl) rfl ?_
    exact g
  · replace g := g.2 c3
    refine aw_bipush (pc := 8) dX1_sharedBits_8 ?_
    exact ax_ireturn (pc := 10) dX1_sharedBits_10 rfl g (by decide) (by decide)
set_option maxRecDepth 100000 in
set_option maxHeartbeats 4000000 in
theorem vc_X1_sharedBits_16 {d : Nat} {Q : Option Int → AH → Prop} {h : AH} {p : Nat} {x1 x2 x3 : Int} (hd : 1 ≤ d) (hL : QP h p)
  (g :
    ((hi h p 6 ≤ x3 → (
      Q (some x2) h
    )) ∧
    (¬ (hi h p 6 ≤ x3) → (
      ((20 ≤ x3 → (
        Q (some x2) h
      )) ∧
      (¬ (20 ≤ x3) → (
        ((x3 = x1 → (
          (rg (x3 + 1)) ∧
          AW m_X1_sharedBits d none Q 16 [some (.inr (some p)), some (.inl x1), some (.inl x2), some (.inl (x3 + 1))] [] h (0, 0)
        )) ∧
        (¬ (x3 = x1) → (
          (0 ≤ x3 ∧ x3 < 20) ∧
          (0 ≤ x1 ∧ x1 < 20) ∧
          AM (d - 1) m_X6_firstOne [(.inl (xr (hi h (p + 1) x3) (hi h (p + 1) x1)))] h (fun r h10 => 
            ∃ v11, r = some v11 ∧ SS h h10 ∧
            (rg (x3 + 1)) ∧
            AW m_X1_sharedBits d none Q 16 [some (.inr (some p)), some (.inl x1), some (.inl ((if x2 < v11 then v11 else x2))), some (.inl (x3 + 1))] [] h10 (0, 0))
        )))
      )))
    )))) :
  AW m_X1_sharedBits d none Q 16 [some (.inr (some p)), some (.inl x1), some (.inl x2), some (.inl x3)] [] h (0, 0) := by
  obtain ⟨kp, rp_names, kp_names, rp_asksToGo, kp_asksToGo, rp_tellings, kp_tellings, rp_slots, kp_slots, rp_awake, kp_awake, rp_answering, kp_answering⟩ := id hL
  refine aw_iload_n (pc := 16) dX1_sharedBits_16 rfl ?_
  refine aw_aload_n (pc := 17) dX1_sharedBits_17 rfl ?_
  refine ax_geti (pc := 18) (v := hi h p 6) dX1_sharedBits_18 fl_X1_31 (by decide) rfl kp rfl ?_
  refine aw_icmp_ge (pc := 21) (tgt := 62) dX1_sharedBits_21 (by decide) (fun c4 => ?_) (fun c4 => ?_)
  · replace g := g.1 c4
    refine aw_iload_n (pc := 62) dX1_sharedBits_62 rfl ?_
    exact ax_ireturn (pc := 63) dX1_sharedBits_63 rfl g (by decide) (by decide)
  · replace g := g.2 c4
    refine aw_iload_n (pc := 24) dX1_sharedBits_24 rfl ?_
    refine aw_bipush (pc := 25) dX1_sharedBits_25 ?_
    refine aw_icmp_ge (pc := 27) (tgt := 62) dX1_sharedBits_27 (by decide) (fun c5 => ?_) (fun c5 => ?_)
    · replace g := g.1 c5
      refine aw_iload_n (pc := 62) dX1_sharedBits_62 rfl ?_
      exact ax_ireturn (pc := 63) dX1_sharedBits_63 rfl g (by decide) (by decide)
    · replace g := g.2 c5
      refine aw_iload_n (pc := 30) dX1_sharedBits_30 rfl ?_
      refine aw_iload_n (pc := 31) dX1_sharedBits_31 rfl ?_
      refine aw_icmp_eq (pc := 32) (tgt := 56) dX1_sharedBits_32 (by decide) (fun c6 => ?_) (fun c6 => ?_)
      · replace g := g.1 c6
        obtain ⟨s7, g⟩ := g
        refine ax_iinc (pc := 56) (v' := x3 + 1) (ls' := [some (.inr (some p)), some (.inl x1), some (.inl x2), some (.inl (x3 + 1))]) dX1_sharedBits_56 rfl s7 rfl rfl ?_
        refine aw_goto (pc := 59) (tgt := 16) dX1_sharedBits_59 (by decide) ?_
        exact g
      · replace g := g.2 c6
        refine aw_iload_n (pc := 35) dX1_sharedBits_35 rfl ?_
        refine aw_aload_n (pc := 36) dX1_sharedBits_36 rfl ?_
        refine aw_getr (pc := 37) (r := some (p + 1)) dX1_sharedBits_37 fl_X1_9 (by decide) rfl kp rp_names ?_
        refine aw_iload_n (pc := 40) dX1_sharedBits_40 rfl ?_
        obtain ⟨s8, g⟩ := g
        refine ax_iaload (pc := 41) (n := 20) (v := hi h (p + 1) x3) dX1_sharedBits_41 kp_names s8 rfl ?_
        refine aw_aload_n (pc := 42) dX1_sharedBits_42 rfl ?_
        refine aw_getr (pc := 43) (r := some (p + 1)) dX1_sharedBits_43 fl_X1_9 (by decide) rfl kp rp_names ?_
        refine aw_iload_n (pc := 46) dX1_sharedBits_46 rfl ?_
        obtain ⟨s9, g⟩ := g
        refine ax_iaload (pc := 47) (n := 20) (v := hi h (p + 1) x1) dX1_sharedBits_47 kp_names s9 rfl ?_
        refine aw_ixor (pc := 48) dX1_sharedBits_48 ?_
        refine aw_invSN (pc := 49) (md' := m_X6_firstOne) (as := [(.inl (xr (hi h (p + 1) x3) (hi h (p + 1) x1)))]) dX1_sharedBits_49 mo_X6_firstOne sm_X6_firstOne nl_X1_39 rfl hd (Nat.le_of_ble_eq_true rfl) (Nat.le_of_ble_eq_true rfl) (Nat.le_of_ble_eq_true rfl) ?_
        refine am_mono g (fun _ h10 _ ok_h10 g => ?_)
        obtain ⟨v11, rfl, ss_h10, g⟩ := g
        have hL := QP.ss (h := h) hL ss_h10
        obtain ⟨kp, rp_names, kp_names, rp_asksToGo, kp_asksToGo, rp_tellings, kp_tellings, rp_slots, kp_slots, rp_awake, kp_awake, rp_answering, kp_answering⟩ := id hL
        show AW m_X1_sharedBits d none Q 52 [some (.inr (some p)), some (.inl x1), some (.inl x2), some (.inl x3)] [(.inl v11), (.inl x2)] h10 (0, 0)
        refine aw_max (pc := 52) dX1_sharedBits_52 ml_X1_43 sm_max ii_Math oc_max hd (Nat.le_of_ble_eq_true rfl) (Nat.le_of_ble_eq_true rfl) (Nat.le_of_ble_eq_true rfl) ?_
        refine ax_istore_n (pc := 55) (ls' := [some (.inr (some p)), some (.inl x1), some (.inl ((if x2 < v11 then v11 else x2))), some (.inl x3)]) dX1_sharedBits_55 (Nat.le_of_ble_eq_true rfl) rfl ?_
        obtain ⟨s12, g⟩ := g
        refine ax_iinc (pc := 56) (v' := x3 + 1) (ls' := [some (.inr (some p)), some (.inl x1), some (.inl ((if x2 < v11 then v11 else x2))), some (.inl (x3 + 1))]) dX1_sharedBits_56 rfl s12 rfl rfl ?_
        refine aw_goto (pc := 59) (tgt := 16) dX1_sharedBits_59 (by decide) ?_
        exact g
set_option maxRecDepth 100000 in
set_option maxHeartbeats 4000000 in
theorem vc_X1_awakeCards {d : Nat} {Q : Option Int → AH → Prop} {h : AH} {p : Nat} (hd : 1 ≤ d) (hL : QP h p)
  (g :
    AM (d - 1) m_X1_awakeWith [(.inr (some p)), (.inl 0), (.inl 0)] h (fun r h1 => 
      ∃ v2, r = some v2 ∧ SS h h1 ∧
      Q (some v2) h1)) :
  AM d m_X1_awakeCards [(.inr (some p))] h Q := by
  refine am_body mo_X1_awakeCards (Nat.le_of_ble_eq_true rfl) ?_
  show AW m_X1_awakeCards d none Q 0 [some (.inr (some p))] [] h (0, 0)
  obtain ⟨kp, rp_names, kp_names, rp_asksToGo, kp_asksToGo, rp_tellings, kp_tellings, rp_slots, kp_slots, rp_awake, kp_awake, rp_answering, kp_answering⟩ := id hL
  refine aw_aload_n (pc := 0) dX1_awakeCards_0 rfl ?_
  refine aw_iconst (pc := 1) dX1_awakeCards_1 ?_
  refine aw_iconst (pc := 2) dX1_awakeCards_2 ?_
  refine aw_invV (pc := 3) (md' := m_X1_awakeWith) (ci := 1) (as := [(.inl 0), (.inl 0)]) dX1_awakeCards_3 mo_X1_awakeWith im_X1_awakeWith se_X1_awakeWith ml_X1_49 rfl kp rfl hd (Nat.le_of_ble_eq_true rfl) (Nat.le_of_ble_eq_true rfl) (Nat.le_of_ble_eq_true rfl) ?_
  refine am_mono g (fun _ h1 _ ok_h1 g => ?_)
  obtain ⟨v2, rfl, ss_h1, g⟩ := g
  have hL := QP.ss (h := h) hL ss_h1
  obtain ⟨kp, rp_names, kp_names, rp_asksToGo, kp_asksToGo, rp_tellings, kp_tellings, rp_slots, kp_slots, rp_awake, kp_awake, rp_answering, kp_answering⟩ := id hL
  show AW m_X1_awakeCards d none Q 6 [some (.inr (some p))] [(.inl v2)] h1 (0, 0)
  exact ax_ireturn (pc := 6) dX1_awakeCards_6 rfl g (by decide) (by decide)
set_option maxRecDepth 100000 in
set_option maxHeartbeats 4000000 in
theorem vc_X1_awakeWith {d : Nat} {Q : Option Int → AH → Prop} {h : AH} {p : Nat} {x1 x2 : Int} (hd : 1 ≤ d) (hL : QP h p)
  (g :
    AW m_X1_awakeWith d none Q 5 [some (.inr (some p)), some (.inl x1), some (.inl x2), some (.inl 0), some (.inl 0)] [] h (0, 0)) :
  AM d m_X1_awakeWith [(.inr (some p)), (.inl x1), (.inl x2)] h Q := by
  refine am_body mo_X1_awakeWith (Nat.le_of_ble_eq_true rfl) ?_
  show AW m_X1_awakeWith d none Q 0 [some (.inr (some p)), some (.inl x1), some (.inl x2), none, none] [] h (0, 0)
  obtain ⟨kp, rp_names, kp_names, rp_asksToGo, kp_asksToGo, rp_tellings, kp_tellings, rp_slots, kp_slots, rp_awake, kp_awake, rp_answering, kp_answering⟩ := id hL
  refine aw_iconst (pc := 0) dX1_awakeWith_0 ?_
  refine ax_istore_n (pc := 1) (ls' := [some (.inr (some p)), some (.inl x1), some (.inl x2), some (.inl 0), none]) dX1_awakeWith_1 (Nat.le_of_ble_eq_true rfl) rfl ?_
  refine aw_iconst (pc := 2) dX1_awakeWith_2 ?_
  refine ax_istore (pc := 3) (ls' := [some (.inr (some p)), some (.inl x1), some (.inl x2), some (.inl 0), some (.inl 0)]) dX1_awakeWith_3 (Nat.le_of_ble_eq_true rfl) rfl ?_
  exact g
set_option maxRecDepth 100000 in
set_option maxHeartbeats 4000000 in
theorem vc_X1_awakeWith_5 {d : Nat} {Q : Option Int → AH → Prop} {h : AH} {p : Nat} {x1 x2 x3 x4 : Int} (hd : 1 ≤ d) (hL : QP h p)
  (g :
    ((hi h p 6 ≤ x4 → (
      Q (some x3) h
    )) ∧
    (¬ (hi h p 6 ≤ x4) → (
      ((20 ≤ x4 → (
        Q (some x3) h
      )) ∧
      (¬ (20 ≤ x4) → (
        (0 ≤ x4 ∧ x4 < 20) ∧
        ((hi h (p + 5) x4 = 0 → (
          (rg (x4 + 1)) ∧
          AW m_X1_awakeWith d none Q 5 [some (.inr (some p)), some (.inl x1), some (.inl x2), some (.inl x3), some (.inl (x4 + 1))] [] h (0, 0)
        )) ∧
        (¬ (hi h (p + 5) x4 = 0) → (
          AM (d - 1) m_X6_firstBits [(.inl (hi h (p + 1) x4)), (.inl x1)] h (fun r h6 => 
            ∃ v7, r = some v7 ∧ SS h h6 ∧
            ((¬ v7 = x2 → (
              (rg (x4 + 1)) ∧
              AW m_X1_awakeWith d none Q 5 [some (.inr (some p)), some (.inl x1), some (.inl x2), some (.inl x3), some (.inl (x4 + 1))] [] h6 (0, 0)
            )) ∧
            (¬ (¬ v7 = x2) → (
              (rg (x3 + 1)) ∧
              (rg (x4 + 1)) ∧
              AW m_X1_awakeWith d none Q 5 [some (.inr (some p)), some (.inl x1), some (.inl x2), some (.inl (x3 + 1)), some (.inl (x4 + 1))] [] h6 (0, 0)
            ))))
        )))
      )))
    )))) :
  AW m_X1_awakeWith d none Q 5 [some (.inr (some p)), some (.inl x1), some (.inl x2), some (.inl x3), some (.inl x4)] [] h (0, 0) := by
  obtain ⟨kp, rp_names, kp_names, rp_asksToGo, kp_asksToGo, rp_tellings, kp_tellings, rp_slots, kp_slots, rp_awake, kp_awake, rp_answering, kp_answering⟩ := id hL
  refine aw_iload (pc := 5) dX1_awakeWith_5 rfl ?_
  refine aw_aload_n (pc := 7) dX1_awakeWith_7 rfl ?_
  refine ax_geti (pc := 8) (v := hi h p 6) dX1_awakeWith_8 fl_X1_31 (by decide) rfl kp rfl ?_
  refine aw_icmp_ge (pc := 11) (tgt := 55) dX1_awakeWith_11 (by decide) (fun c1 => ?_) (fun c1 => ?_)
  · replace g := g.1 c1
    refine aw_iload_n (pc := 55) dX1_awakeWith_55 rfl ?_
    exact ax_ireturn (pc := 56) dX1_awakeWith_56 rfl g (by decide) (by decide)
  · replace g := g.2 c1
    refine aw_iload (pc := 14) dX1_awakeWith_14 rfl ?_
    refine aw_bipush (pc := 16) dX1_awakeWith_16 ?_
    refine aw_icmp_ge (pc := 18) (tgt := 55) dX1_awakeWith_18 (by decide) (fun c2 => ?_) (fun c2 => ?_)
    · replace g := g.1 c2
      refine aw_iload_n (pc := 55) dX1_awakeWith_55 rfl ?_
      exact ax_ireturn (pc := 56) dX1_awakeWith_56 rfl g (by decide) (by decide)
    · replace g := g.2 c2
      refine aw_aload_n (pc := 21) dX1_awakeWith_21 rfl ?_
      refine aw_getr (pc := 22) (r := some (p + 5)) dX1_awakeWith_22 fl_X1_24 (by decide) rfl kp rp_awake ?_
      refine aw_iload (pc := 25) dX1_awakeWith_25 rfl ?_
      obtain ⟨s3, g⟩ := g
      refine ax_baload (pc := 27) (n := 20) (v := hi h (p + 5) x4) dX1_awakeWith_27 kp_awake s3 rfl ?_
      refine aw_if_eq (pc := 28) (tgt := 49) dX1_awakeWith_28 (by decide) (fun c4 => ?_) (fun c4 => ?_)
      · replace g := g.1 c4
        obtain ⟨s5, g⟩ := g
        refine ax_iinc (pc := 49) (v' := x4 + 1) (ls' := [some (.inr (some p)), some (.inl x1), some (.inl x2), some (.inl x3), some (.inl (x4 + 1))]) dX1_awakeWith_49 rfl s5 rfl rfl ?_
        refine aw_goto (pc := 52) (tgt := 5) dX1_awakeWith_52 (by decide) ?_
        exact g
      · replace g := g.2 c4
        refine aw_aload_n (pc := 31) dX1_awakeWith_31 rfl ?_
        refine aw_getr (pc := 32) (r := some (p + 1)) dX1_awakeWith_32 fl_X1_9 (by decide) rfl kp rp_names ?_
        refine aw_iload (pc := 35) dX1_awakeWith_35 rfl ?_
        refine ax_iaload (pc := 37) (n := 20) (v := hi h (p + 1) x4) dX1_awakeWith_37 kp_names s3 rfl ?_
        refine aw_iload_n (pc := 38) dX1_awakeWith_38 rfl ?_
        refine aw_invSN (pc := 39) (md' := m_X6_firstBits) (as := [(.inl (hi h (p + 1) x4)), (.inl x1)]) dX1_awakeWith_39 mo_X6_firstBits sm_X6_firstBits nl_X1_52 rfl hd (Nat.le_of_ble_eq_true rfl) (Nat.le_of_ble_eq_true rfl) (Nat.le_of_ble_eq_true rfl) ?_
        refine am_mono g (fun _ h6 _ ok_h6 g => ?_)
        obtain ⟨v7, rfl, ss_h6, g⟩ := g
        have hL := QP.ss (h := h) hL ss_h6
        obtain ⟨kp, rp_names, kp_names, rp_asksToGo, kp_asksToGo, rp_tellings, kp_tellings, rp_slots, kp_slots, rp_awake, kp_awake, rp_answering, kp_answering⟩ := id hL
        show AW m_X1_awakeWith d none Q 42 [some (.inr (some p)), some (.inl x1), some (.inl x2), some (.inl x3), some (.inl x4)] [(.inl v7)] h6 (0, 0)
        refine aw_iload_n (pc := 42) dX1_awakeWith_42 rfl ?_
        refine aw_icmp_ne (pc := 43) (tgt := 49) dX1_awakeWith_43 (by decide) (fun c8 => ?_) (fun c8 => ?_)
        · replace g := g.1 c8
          obtain ⟨s9, g⟩ := g
          refine ax_iinc (pc := 49) (v' := x4 + 1) (ls' := [some (.inr (some p)), some (.inl x1), some (.inl x2), some (.inl x3), some (.inl (x4 + 1))]) dX1_awakeWith_49 rfl s9 rfl rfl ?_
          refine aw_goto (pc := 52) (tgt := 5) dX1_awakeWith_52 (by decide) ?_
          exact g
        · replace g := g.2 c8
          obtain ⟨s10, g⟩ := g
          refine ax_iinc (pc := 46) (v' := x3 + 1) (ls' := [some (.inr (some p)), some (.inl x1), some (.inl x2), some (.inl (x3 + 1)), some (.inl x4)]) dX1_awakeWith_46 rfl s10 rfl rfl ?_
          obtain ⟨s11, g⟩ := g
          refine ax_iinc (pc := 49) (v' := x4 + 1) (ls' := [some (.inr (some p)), some (.inl x1), some (.inl x2), some (.inl (x3 + 1)), some (.inl (x4 + 1))]) dX1_awakeWith_49 rfl s11 rfl rfl ?_
          refine aw_goto (pc := 52) (tgt := 5) dX1_awakeWith_52 (by decide) ?_
          exact g
set_option maxRecDepth 100000 in
set_option maxHeartbeats 4000000 in
theorem vc_X1_leavingCards {d : Nat} {Q : Option Int → AH → Prop} {h : AH} {p : Nat} (hL : QP h p)
  (g :
    AW m_X1_leavingCards d none Q 4 [some (.inr (some p)), some (.inl 0), some (.inl 0)] [] h (0, 0)) :
  AM d m_X1_leavingCards [(.inr (some p))] h Q := by
  refine am_body mo_X1_leavingCards (Nat.le_of_ble_eq_true rfl) ?_
  show AW m_X1_leavingCards d none Q 0 [some (.inr (some p)), none, none] [] h (0, 0)
  obtain ⟨kp, rp_names, kp_names, rp_asksToGo, kp_asksToGo, rp_tellings, kp_tellings, rp_slots, kp_slots, rp_awake, kp_awake, rp_answering, kp_answering⟩ := id hL
  refine aw_iconst (pc := 0) dX1_leavingCards_0 ?_
  refine ax_istore_n (pc := 1) (ls' := [some (.inr (some p)), some (.inl 0), none]) dX1_leavingCards_1 (Nat.le_of_ble_eq_true rfl) rfl ?_
  refine aw_iconst (pc := 2) dX1_leavingCards_2 ?_
  refine ax_istore_n (pc := 3) (ls' := [some (.inr (some p)), some (.inl 0), some (.inl 0)]) dX1_leavingCards_3 (Nat.le_of_ble_eq_true rfl) rfl ?_
  exact g
set_option maxRecDepth 100000 in
set_option maxHeartbeats 4000000 in
theorem vc_X1_leavingCards_4 {d : Nat} {Q : Option Int → AH → Prop} {h : AH} {p : Nat} {x1 x2 : Int} (hL : QP h p)
  (g :
    ((hi h p 6 ≤ x2 → (
      Q (some x1) h
    )) ∧
    (¬ (hi h p 6 ≤ x2) → (
      ((20 ≤ x2 → (
        Q (some x1) h
      )) ∧
      (¬ (20 ≤ x2) → (
        (0 ≤ x2 ∧ x2 < 20) ∧
        ((hi h (p + 2) x2 ≤ 0 → (
          (rg (x2 + 1)) ∧
          AW m_X1_leavingCards d none Q 4 [some (.inr (some p)), some (.inl x1), some (.inl (x2 + 1))] [] h (0, 0)
        )) ∧
        (¬ (hi h (p + 2) x2 ≤ 0) → (
          (rg (x1 + 1)) ∧
          (rg (x2 + 1)) ∧
          AW m_X1_leavingCards d none Q 4 [some (.inr (some p)), some (.inl (x1 + 1)), some (.inl (x2 + 1))] [] h (0, 0)
        )))
      )))
    )))) :
  AW m_X1_leavingCards d none Q 4 [some (.inr (some p)), some (.inl x1), some (.inl x2)] [] h (0, 0) := by
  obtain ⟨kp, rp_names, kp_names, rp_asksToGo, kp_asksToGo, rp_tellings, kp_tellings, rp_slots, kp_slots, rp_awake, kp_awake, rp_answering, kp_answering⟩ := id hL
  refine aw_iload_n (pc := 4) dX1_leavingCards_4 rfl ?_
  refine aw_aload_n (pc := 5) dX1_leavingCards_5 rfl ?_
  refine ax_geti (pc := 6) (v := hi h p 6) dX1_leavingCards_6 fl_X1_31 (by decide) rfl kp rfl ?_
  refine aw_icmp_ge (pc := 9) (tgt := 36) dX1_leavingCards_9 (by decide) (fun c1 => ?_) (fun c1 => ?_)
  · replace g := g.1 c1
    refine aw_iload_n (pc := 36) dX1_leavingCards_36 rfl ?_
    exact ax_ireturn (pc := 37) dX1_leavingCards_37 rfl g (by decide) (by decide)
  · replace g := g.2 c1
    refine aw_iload_n (pc := 12) dX1_leavingCards_12 rfl ?_
    refine aw_bipush (pc := 13) dX1_leavingCards_13 ?_
    refine aw_icmp_ge (pc := 15) (tgt := 36) dX1_leavingCards_15 (by decide) (fun c2 => ?_) (fun c2 => ?_)
    · replace g := g.1 c2
      refine aw_iload_n (pc := 36) dX1_leavingCards_36 rfl ?_
      exact ax_ireturn (pc := 37) dX1_leavingCards_37 rfl g (by decide) (by decide)
    · replace g := g.2 c2
      refine aw_aload_n (pc := 18) dX1_leavingCards_18 rfl ?_
      refine aw_getr (pc := 19) (r := some (p + 2)) dX1_leavingCards_19 fl_X1_15 (by decide) rfl kp rp_asksToGo ?_
      refine aw_iload_n (pc := 22) dX1_leavingCards_22 rfl ?_
      obtain ⟨s3, g⟩ := g
      refine ax_iaload (pc := 23) (n := 20) (v := hi h (p + 2) x2) dX1_leavingCards_23 kp_asksToGo s3 rfl ?_
      refine aw_if_le (pc := 24) (tgt := 30) dX1_leavingCards_24 (by decide) (fun c4 => ?_) (fun c4 => ?_)
      · replace g := g.1 c4
        obtain ⟨s5, g⟩ := g
        refine ax_iinc (pc := 30) (v' := x2 + 1) (ls' := [some (.inr (some p)), some (.inl x1), some (.inl (x2 + 1))]) dX1_leavingCards_30 rfl s5 rfl rfl ?_
        refine aw_goto (pc := 33) (tgt := 4) dX1_leavingCards_33 (by decide) ?_
        exact g
      · replace g := g.2 c4
        obtain ⟨s6, g⟩ := g
        refine ax_iinc (pc := 27) (v' := x1 + 1) (ls' := [some (.inr (some p)), some (.inl (x1 + 1)), some (.inl x2)]) dX1_leavingCards_27 rfl s6 rfl rfl ?_
        obtain ⟨s7, g⟩ := g
        refine ax_iinc (pc := 30) (v' := x2 + 1) (ls' := [some (.inr (some p)), some (.inl (x1 + 1)), some (.inl (x2 + 1))]) dX1_leavingCards_30 rfl s7 rfl rfl ?_
        refine aw_goto (pc := 33) (tgt := 4) dX1_leavingCards_33 (by decide) ?_
        exact g
set_option maxRecDepth 100000 in
set_option maxHeartbeats 4000000 in
theorem vc_X1_insert {d : Nat} {Q : Option Int → AH → Prop} {h : AH} {p : Nat} {x1 : Int} (hd : 1 ≤ d) (hL : QP h p)
  (g :
    ((hi h p 6 < 0 → (
      Q none h
    )) ∧
    (¬ (hi h p 6 < 0) → (
      ((hi h p 6 < 20 → (
        AW m_X1_insert d none Q 22 [some (.inr (some p)), some (.inl x1), some (.inl (hi h p 6))] [] h (0, 0)
      )) ∧
      (¬ (hi h p 6 < 20) → (
        Q none h
      )))
    )))) :
  AM d m_X1_insert [(.inr (some p)), (.inl x1)] h Q := by
  refine am_body mo_X1_insert (Nat.le_of_ble_eq_true rfl) ?_
  show AW m_X1_insert d none Q 0 [some (.inr (some p)), some (.inl x1), none] [] h (0, 0)
  obtain ⟨kp, rp_names, kp_names, rp_asksToGo, kp_asksToGo, rp_tellings, kp_tellings, rp_slots, kp_slots, rp_awake, kp_awake, rp_answering, kp_answering⟩ := id hL
  refine aw_aload_n (pc := 0) dX1_insert_0 rfl ?_
  refine ax_geti (pc := 1) (v := hi h p 6) dX1_insert_1 fl_X1_31 (by decide) rfl kp rfl ?_
  refine aw_if_lt (pc := 4) (tgt := 16) dX1_insert_4 (by decide) (fun c1 => ?_) (fun c1 => ?_)
  · replace g := g.1 c1
    exact aw_return (pc := 16) dX1_insert_16 rfl g (by decide) (by decide)
  · replace g := g.2 c1
    refine aw_aload_n (pc := 7) dX1_insert_7 rfl ?_
    refine ax_geti (pc := 8) (v := hi h p 6) dX1_insert_8 fl_X1_31 (by decide) rfl kp rfl ?_
    refine aw_bipush (pc := 11) dX1_insert_11 ?_
    refine aw_icmp_lt (pc := 13) (tgt := 17) dX1_insert_13 (by decide) (fun c2 => ?_) (fun c2 => ?_)
    · replace g := g.1 c2
      refine aw_aload_n (pc := 17) dX1_insert_17 rfl ?_
      refine ax_geti (pc := 18) (v := hi h p 6) dX1_insert_18 fl_X1_31 (by decide) rfl kp rfl ?_
      refine ax_istore_n (pc := 21) (ls' := [some (.inr (some p)), some (.inl x1), some (.inl (hi h p 6))]) dX1_insert_21 (Nat.le_of_ble_eq_true rfl) rfl ?_
      exact g
    · replace g := g.2 c2
      exact aw_return (pc := 16) dX1_insert_16 rfl g (by decide) (by decide)
set_option maxRecDepth 100000 in
set_option maxHeartbeats 4000000 in
theorem vc_X1_insert_22 {d : Nat} {Q : Option Int → AH → Prop} {h : AH} {p : Nat} {x1 x2 : Int} (hd : 1 ≤ d) (hL : QP h p)
  (g :
    ((x2 ≤ 0 → (
      (0 ≤ x2 ∧ x2 < 20) ∧
      (rg ((hi h p 6) + 1)) ∧
      Q none (up (up (up (up (up (up h (p + 1) x2 x1) (p + 2) x2 0) (p + 3) x2 0) (p + 4) x2 (-1)) (p + 5) x2 1) p 6 ((hi h p 6) + 1))
    )) ∧
    (¬ (x2 ≤ 0) → (
      (rg (x2 - 1)) ∧
      (0 ≤ x2 - 1 ∧ x2 - 1 < 20) ∧
      ((hi h (p + 1) (x2 - 1) ≤ x1 → (
        (0 ≤ x2 ∧ x2 < 20) ∧
        (rg ((hi h p 6) + 1)) ∧
        Q none (up (up (up (up (up (up h (p + 1) x2 x1) (p + 2) x2 0) (p + 3) x2 0) (p + 4) x2 (-1)) (p + 5) x2 1) p 6 ((hi h p 6) + 1))
      )) ∧
      (¬ (hi h (p + 1) (x2 - 1) ≤ x1) → (
        AM (d - 1) m_X1_moveCard [(.inr (some p)), (.inl (x2 - 1)), (.inl x2)] h (fun r h11 => 
          r = none ∧ SS h h11 ∧
          AW m_X1_insert d none Q 22 [some (.inr (some p)), some (.inl x1), some (.inl (x2 - 1))] [] h11 (0, 0))
      )))
    )))) :
  AW m_X1_insert d none Q 22 [some (.inr (some p)), some (.inl x1), some (.inl x2)] [] h (0, 0) := by
  obtain ⟨kp, rp_names, kp_names, rp_asksToGo, kp_asksToGo, rp_tellings, kp_tellings, rp_slots, kp_slots, rp_awake, kp_awake, rp_answering, kp_answering⟩ := id hL
  refine aw_iload_n (pc := 22) dX1_insert_22 rfl ?_
  refine aw_if_le (pc := 23) (tgt := 52) dX1_insert_23 (by decide) (fun c3 => ?_) (fun c3 => ?_)
  · replace g := g.1 c3
    refine aw_aload_n (pc := 52) dX1_insert_52 rfl ?_
    refine aw_getr (pc := 53) (r := some (p + 1)) dX1_insert_53 fl_X1_9 (by decide) rfl kp rp_names ?_
    refine aw_iload_n (pc := 56) dX1_insert_56 rfl ?_
    refine aw_iload_n (pc := 57) dX1_insert_57 rfl ?_
    obtain ⟨s4, g⟩ := g
    refine ax_iastore (pc := 58) (n := 20) dX1_insert_58 kp_names s4 ?_
    refine aw_aload_n (pc := 59) dX1_insert_59 rfl ?_
    refine aw_getr (pc := 60) (r := some (p + 2)) dX1_insert_60 fl_X1_15 (by decide) rfl kp rp_asksToGo ?_
    refine aw_iload_n (pc := 63) dX1_insert_63 rfl ?_
    refine aw_iconst (pc := 64) dX1_insert_64 ?_
    refine ax_iastore (pc := 65) (n := 20) dX1_insert_65 kp_asksToGo s4 ?_
    refine aw_aload_n (pc := 66) dX1_insert_66 rfl ?_
    refine aw_getr (pc := 67) (r := some (p + 3)) dX1_insert_67 fl_X1_18 (by decide) rfl kp rp_tellings ?_
    refine aw_iload_n (pc := 70) dX1_insert_70 rfl ?_
    refine aw_iconst (pc := 71) dX1_insert_71 ?_
    refine ax_iastore (pc := 72) (n := 20) dX1_insert_72 kp_tellings s4 ?_
    refine aw_aload_n (pc := 73) dX1_insert_73 rfl ?_
    refine aw_getr (pc := 74) (r := some (p + 4)) dX1_insert_74 fl_X1_21 (by decide) rfl kp rp_slots ?_
    refine aw_iload_n (pc := 77) dX1_insert_77 rfl ?_
    refine aw_iconst (pc := 78) dX1_insert_78 ?_
    refine ax_iastore (pc := 79) (n := 20) dX1_insert_79 kp_slots s4 ?_
    refine aw_aload_n (pc := 80) dX1_insert_80 rfl ?_
    refine aw_getr (pc := 81) (r := some (p + 5)) dX1_insert_81 fl_X1_24 (by decide) rfl kp rp_awake ?_
    refine aw_iload_n (pc := 84) dX1_insert_84 rfl ?_
    refine aw_iconst (pc := 85) dX1_insert_85 ?_
    refine ax_bastore (pc := 86) (n := 20) dX1_insert_86 kp_awake s4 (by decide) ?_
    refine aw_aload_n (pc := 87) dX1_insert_87 rfl ?_
    refine aw_dup (pc := 88) dX1_insert_88 ?_
    refine ax_geti (pc := 89) (v := hi h p 6) dX1_insert_89 fl_X1_31 (by decide) rfl kp (by simp [hi_up]) ?_
    refine aw_iconst (pc := 92) dX1_insert_92 ?_
    obtain ⟨s5, g⟩ := g
    refine ax_iadd (pc := 93) (v := (hi h p 6) + 1) dX1_insert_93 s5 rfl ?_
    refine ax_puti (pc := 94) dX1_insert_94 fl_X1_31 (by decide) rfl rfl rfl kp ?_
    exact aw_return (pc := 97) dX1_insert_97 rfl g (by decide) (by decide)
  · replace g := g.2 c3
    refine aw_aload_n (pc := 26) dX1_insert_26 rfl ?_
    refine aw_getr (pc := 27) (r := some (p + 1)) dX1_insert_27 fl_X1_9 (by decide) rfl kp rp_names ?_
    refine aw_iload_n (pc := 30) dX1_insert_30 rfl ?_
    refine aw_iconst (pc := 31) dX1_insert_31 ?_
    obtain ⟨s6, g⟩ := g
    refine ax_isub (pc := 32) (v := x2 - 1) dX1_insert_32 s6 rfl ?_
    obtain ⟨s7, g⟩ := g
    refine ax_iaload (pc := 33) (n := 20) (v := hi h (p + 1) (x2 - 1)) dX1_insert_33 kp_names s7 rfl ?_
    refine aw_iload_n (pc := 34) dX1_insert_34 rfl ?_
    refine aw_icmp_le (pc := 35) (tgt := 52) dX1_insert_35 (by decide) (fun c8 => ?_) (fun c8 => ?_)
    · replace g := g.1 c8
      refine aw_aload_n (pc := 52) dX1_insert_52 rfl ?_
      refine aw_getr (pc := 53) (r := some (p + 1)) dX1_insert_53 fl_X1_9 (by decide) rfl kp rp_names ?_
      refine aw_iload_n (pc := 56) dX1_insert_56 rfl ?_
      refine aw_iload_n (pc := 57) dX1_insert_57 rfl ?_
      obtain ⟨s9, g⟩ := g
      refine ax_iastore (pc := 58) (n := 20) dX1_insert_58 kp_names s9 ?_
      refine aw_aload_n (pc := 59) dX1_insert_59 rfl ?_
      refine aw_getr (pc := 60) (r := some (p + 2)) dX1_insert_60 fl_X1_15 (by decide) rfl kp rp_asksToGo ?_
      refine aw_iload_n (pc := 63) dX1_insert_63 rfl ?_
      refine aw_iconst (pc := 64) dX1_insert_64 ?_
      refine ax_iastore (pc := 65) (n := 20) dX1_insert_65 kp_asksToGo s9 ?_
      refine aw_aload_n (pc := 66) dX1_insert_66 rfl ?_
      refine aw_getr (pc := 67) (r := some (p + 3)) dX1_insert_67 fl_X1_18 (by decide) rfl kp rp_tellings ?_
      refine aw_iload_n (pc := 70) dX1_insert_70 rfl ?_
      refine aw_iconst (pc := 71) dX1_insert_71 ?_
      refine ax_iastore (pc := 72) (n := 20) dX1_insert_72 kp_tellings s9 ?_
      refine aw_aload_n (pc := 73) dX1_insert_73 rfl ?_
      refine aw_getr (pc := 74) (r := some (p + 4)) dX1_insert_74 fl_X1_21 (by decide) rfl kp rp_slots ?_
      refine aw_iload_n (pc := 77) dX1_insert_77 rfl ?_
      refine aw_iconst (pc := 78) dX1_insert_78 ?_
      refine ax_iastore (pc := 79) (n := 20) dX1_insert_79 kp_slots s9 ?_
      refine aw_aload_n (pc := 80) dX1_insert_80 rfl ?_
      refine aw_getr (pc := 81) (r := some (p + 5)) dX1_insert_81 fl_X1_24 (by decide) rfl kp rp_awake ?_
      refine aw_iload_n (pc := 84) dX1_insert_84 rfl ?_
      refine aw_iconst (pc := 85) dX1_insert_85 ?_
      refine ax_bastore (pc := 86) (n := 20) dX1_insert_86 kp_awake s9 (by decide) ?_
      refine aw_aload_n (pc := 87) dX1_insert_87 rfl ?_
      refine aw_dup (pc := 88) dX1_insert_88 ?_
      refine ax_geti (pc := 89) (v := hi h p 6) dX1_insert_89 fl_X1_31 (by decide) rfl kp (by simp [hi_up]) ?_
      refine aw_iconst (pc := 92) dX1_insert_92 ?_
      obtain ⟨s10, g⟩ := g
      refine ax_iadd (pc := 93) (v := (hi h p 6) + 1) dX1_insert_93 s10 rfl ?_
      refine ax_puti (pc := 94) dX1_insert_94 fl_X1_31 (by decide) rfl rfl rfl kp ?_
      exact aw_return (pc := 97) dX1_insert_97 rfl g (by decide) (by decide)
    · replace g := g.2 c8
      refine aw_aload_n (pc := 38) dX1_insert_38 rfl ?_
      refine aw_iload_n (pc := 39) dX1_insert_39 rfl ?_
      refine aw_iconst (pc := 40) dX1_insert_40 ?_
      refine ax_isub (pc := 41) (v := x2 - 1) dX1_insert_41 s6 rfl ?_
      refine aw_iload_n (pc := 42) dX1_insert_42 rfl ?_
      refine aw_invV (pc := 43) (md' := m_X1_moveCard) (ci := 1) (as := [(.inl (x2 - 1)), (.inl x2)]) dX1_insert_43 mo_X1_moveCard im_X1_moveCard se_X1_moveCard ml_X1_55 rfl kp rfl hd (Nat.le_of_ble_eq_true rfl) (Nat.le_of_ble_eq_true rfl) (Nat.le_of_ble_eq_true rfl) ?_
      refine am_mono g (fun _ h11 _ ok_h11 g => ?_)
      obtain ⟨rfl, ss_h11, g⟩ := g
      have hL := QP.ss (h := h) hL ss_h11
      obtain ⟨kp, rp_names, kp_names, rp_asksToGo, kp_asksToGo, rp_tellings, kp_tellings, rp_slots, kp_slots, rp_awake, kp_awake, rp_answering, kp_answering⟩ := id hL
      show AW m_X1_insert d none Q 46 [some (.inr (some p)), some (.inl x1), some (.inl x2)] [] h11 (0, 0)
      refine ax_iinc (pc := 46) (v' := x2 - 1) (ls' := [some (.inr (some p)), some (.inl x1), some (.inl (x2 - 1))]) dX1_insert_46 rfl s6 (by omega) rfl ?_
      refine aw_goto (pc := 49) (tgt := 22) dX1_insert_49 (by decide) ?_
      exact g
set_option maxRecDepth 100000 in
set_option maxHeartbeats 4000000 in
theorem vc_X1_removeAt {d : Nat} {Q : Option Int → AH → Prop} {h : AH} {p : Nat} {x1 : Int} (hd : 1 ≤ d) (hL : QP h p)
  (g :
    AM (d - 1) m_X1_isCard [(.inr (some p)), (.inl x1)] h (fun r h1 => 
      ∃ v2, r = some v2 ∧ SS h h1 ∧
      ((¬ v2 = 0 → (
        AW m_X1_removeAt d none Q 11 [some (.inr (some p)), some (.inl x1), some (.inl x1)] [] h1 (0, 0)
      )) ∧
      (¬ (¬ v2 = 0) → (
        Q none h1
      ))))) :
  AM d m_X1_removeAt [(.inr (some p)), (.inl x1)] h Q := by
  refine am_body mo_X1_removeAt (Nat.le_of_ble_eq_true rfl) ?_
  show AW m_X1_removeAt d none Q 0 [some (.inr (some p)), some (.inl x1), none] [] h (0, 0)
  obtain ⟨kp, rp_names, kp_names, rp_asksToGo, kp_asksToGo, rp_tellings, kp_tellings, rp_slots, kp_slots, rp_awake, kp_awake, rp_answering, kp_answering⟩ := id hL
  refine aw_aload_n (pc := 0) dX1_removeAt_0 rfl ?_
  refine aw_iload_n (pc := 1) dX1_removeAt_1 rfl ?_
  refine aw_invV (pc := 2) (md' := m_X1_isCard) (ci := 1) (as := [(.inl x1)]) dX1_removeAt_2 mo_X1_isCard im_X1_isCard se_X1_isCard ml_X1_35 rfl kp rfl hd (Nat.le_of_ble_eq_true rfl) (Nat.le_of_ble_eq_true rfl) (Nat.le_of_ble_eq_true rfl) ?_
  refine am_mono g (fun _ h1 _ ok_h1 g => ?_)
  obtain ⟨v2, rfl, ss_h1, g⟩ := g
  have hL := QP.ss (h := h) hL ss_h1
  obtain ⟨kp, rp_names, kp_names, rp_asksToGo, kp_asksToGo, rp_tellings, kp_tellings, rp_slots, kp_slots, rp_awake, kp_awake, rp_answering, kp_answering⟩ := id hL
  show AW m_X1_removeAt d none Q 5 [some (.inr (some p)), some (.inl x1), none] [(.inl v2)] h1 (0, 0)
  refine aw_if_ne (pc := 5) (tgt := 9) dX1_removeAt_5 (by decide) (fun c3 => ?_) (fun c3 => ?_)
  · replace g := g.1 c3
    refine aw_iload_n (pc := 9) dX1_removeAt_9 rfl ?_
    refine ax_istore_n (pc := 10) (ls' := [some (.inr (some p)), some (.inl x1), some (.inl x1)]) dX1_removeAt_10 (Nat.le_of_ble_eq_true rfl) rfl ?_
    exact g
  · replace g := g.2 c3
    exact aw_return (pc := 8) dX1_removeAt_8 rfl g (by decide) (by decide)
set_option maxRecDepth 100000 in
set_option maxHeartbeats 4000000 in
theorem vc_X1_removeAt_11 {d : Nat} {Q : Option Int → AH → Prop} {h : AH} {p : Nat} {x1 x2 : Int} (hd : 1 ≤ d) (hL : QP h p)
  (g :
    (rg (x2 + 1)) ∧
    ((hi h p 6 ≤ x2 + 1 → (
      (rg ((hi h p 6) - 1)) ∧
      Q none (up h p 6 ((hi h p 6) - 1))
    )) ∧
    (¬ (hi h p 6 ≤ x2 + 1) → (
      ((20 ≤ x2 + 1 → (
        (rg ((hi h p 6) - 1)) ∧
        Q none (up h p 6 ((hi h p 6) - 1))
      )) ∧
      (¬ (20 ≤ x2 + 1) → (
        AM (d - 1) m_X1_moveCard [(.inr (some p)), (.inl (x2 + 1)), (.inl x2)] h (fun r h9 => 
          r = none ∧ SS h h9 ∧
          AW m_X1_removeAt d none Q 11 [some (.inr (some p)), some (.inl x1), some (.inl (x2 + 1))] [] h9 (0, 0))
      )))
    )))) :
  AW m_X1_removeAt d none Q 11 [some (.inr (some p)), some (.inl x1), some (.inl x2)] [] h (0, 0) := by
  obtain ⟨kp, rp_names, kp_names, rp_asksToGo, kp_asksToGo, rp_tellings, kp_tellings, rp_slots, kp_slots, rp_awake, kp_awake, rp_answering, kp_answering⟩ := id hL
  refine aw_iload_n (pc := 11) dX1_removeAt_11 rfl ?_
  refine aw_iconst (pc := 12) dX1_removeAt_12 ?_
  obtain ⟨s4, g⟩ := g
  refine ax_iadd (pc := 13) (v := x2 + 1) dX1_removeAt_13 s4 rfl ?_
  refine aw_aload_n (pc := 14) dX1_removeAt_14 rfl ?_
  refine ax_geti (pc := 15) (v := hi h p 6) dX1_removeAt_15 fl_X1_31 (by decide) rfl kp rfl ?_
  refine aw_icmp_ge (pc := 18) (tgt := 43) dX1_removeAt_18 (by decide) (fun c5 => ?_) (fun c5 => ?_)
  · replace g := g.1 c5
    refine aw_aload_n (pc := 43) dX1_removeAt_43 rfl ?_
    refine aw_dup (pc := 44) dX1_removeAt_44 ?_
    refine ax_geti (pc := 45) (v := hi h p 6) dX1_removeAt_45 fl_X1_31 (by decide) rfl kp rfl ?_
    refine aw_iconst (pc := 48) dX1_removeAt_48 ?_
    obtain ⟨s6, g⟩ := g
    refine ax_isub (pc := 49) (v := (hi h p 6) - 1) dX1_removeAt_49 s6 rfl ?_
    refine ax_puti (pc := 50) dX1_removeAt_50 fl_X1_31 (by decide) rfl rfl rfl kp ?_
    exact aw_return (pc := 53) dX1_removeAt_53 rfl g (by decide) (by decide)
  · replace g := g.2 c5
    refine aw_iload_n (pc := 21) dX1_removeAt_21 rfl ?_
    refine aw_iconst (pc := 22) dX1_removeAt_22 ?_
    refine ax_iadd (pc := 23) (v := x2 + 1) dX1_removeAt_23 s4 rfl ?_
    refine aw_bipush (pc := 24) dX1_removeAt_24 ?_
    refine aw_icmp_ge (pc := 26) (tgt := 43) dX1_removeAt_26 (by decide) (fun c7 => ?_) (fun c7 => ?_)
    · replace g := g.1 c7
      refine aw_aload_n (pc := 43) dX1_removeAt_43 rfl ?_
      refine aw_dup (pc := 44) dX1_removeAt_44 ?_
      refine ax_geti (pc := 45) (v := hi h p 6) dX1_removeAt_45 fl_X1_31 (by decide) rfl kp rfl ?_
      refine aw_iconst (pc := 48) dX1_removeAt_48 ?_
      obtain ⟨s8, g⟩ := g
      refine ax_isub (pc := 49) (v := (hi h p 6) - 1) dX1_removeAt_49 s8 rfl ?_
      refine ax_puti (pc := 50) dX1_removeAt_50 fl_X1_31 (by decide) rfl rfl rfl kp ?_
      exact aw_return (pc := 53) dX1_removeAt_53 rfl g (by decide) (by decide)
    · replace g := g.2 c7
      refine aw_aload_n (pc := 29) dX1_removeAt_29 rfl ?_
      refine aw_iload_n (pc := 30) dX1_removeAt_30 rfl ?_
      refine aw_iconst (pc := 31) dX1_removeAt_31 ?_
      refine ax_iadd (pc := 32) (v := x2 + 1) dX1_removeAt_32 s4 rfl ?_
      refine aw_iload_n (pc := 33) dX1_removeAt_33 rfl ?_
      refine aw_invV (pc := 34) (md' := m_X1_moveCard) (ci := 1) (as := [(.inl (x2 + 1)), (.inl x2)]) dX1_removeAt_34 mo_X1_moveCard im_X1_moveCard se_X1_moveCard ml_X1_55 rfl kp rfl hd (Nat.le_of_ble_eq_true rfl) (Nat.le_of_ble_eq_true rfl) (Nat.le_of_ble_eq_true rfl) ?_
      refine am_mono g (fun _ h9 _ ok_h9 g => ?_)
      obtain ⟨rfl, ss_h9, g⟩ := g
      have hL := QP.ss (h := h) hL ss_h9
      obtain ⟨kp, rp_names, kp_names, rp_asksToGo, kp_asksToGo, rp_tellings, kp_tellings, rp_slots, kp_slots, rp_awake, kp_awake, rp_answering, kp_answering⟩ := id hL
      show AW m_X1_removeAt d none Q 37 [some (.inr (some p)), some (.inl x1), some (.inl x2)] [] h9 (0, 0)
      refine ax_iinc (pc := 37) (v' := x2 + 1) (ls' := [some (.inr (some p)), some (.inl x1), some (.inl (x2 + 1))]) dX1_removeAt_37 rfl s4 rfl rfl ?_
      refine aw_goto (pc := 40) (tgt := 11) dX1_removeAt_40 (by decide) ?_
      exact g
set_option maxRecDepth 100000 in
set_option maxHeartbeats 4000000 in
theorem vc_X1_moveCard {d : Nat} {Q : Option Int → AH → Prop} {h : AH} {p : Nat} {x1 x2 : Int} (hL : QP h p)
  (g :
    ((x1 < 0 → (
      Q none h
    )) ∧
    (¬ (x1 < 0) → (
      ((20 ≤ x1 → (
        Q none h
      )) ∧
      (¬ (20 ≤ x1) → (
        ((x2 < 0 → (
          Q none h
        )) ∧
        (¬ (x2 < 0) → (
          ((x2 < 20 → (
            (0 ≤ x1 ∧ x1 < 20) ∧
            (0 ≤ x2 ∧ x2 < 20) ∧
            (hi h (p + 5) x1 = 0 ∨ hi h (p + 5) x1 = 1) ∧
            Q none (up (up (up (up (up h (p + 1) x2 (hi h (p + 1) x1)) (p + 2) x2 (hi h (p + 2) x1)) (p + 3) x2 (hi h (p + 3) x1)) (p + 4) x2 (hi h (p + 4) x1)) (p + 5) x2 (hi h (p + 5) x1))
          )) ∧
          (¬ (x2 < 20) → (
            Q none h
          )))
        )))
      )))
    )))) :
  AM d m_X1_moveCard [(.inr (some p)), (.inl x1), (.inl x2)] h Q := by
  refine am_body mo_X1_moveCard (Nat.le_of_ble_eq_true rfl) ?_
  show AW m_X1_moveCard d none Q 0 [some (.inr (some p)), some (.inl x1), some (.inl x2)] [] h (0, 0)
  obtain ⟨kp, rp_names, kp_names, rp_asksToGo, kp_asksToGo, rp_tellings, kp_tellings, rp_slots, kp_slots, rp_awake, kp_awake, rp_answering, kp_answering⟩ := id hL
  refine aw_iload_n (pc := 0) dX1_moveCard_0 rfl ?_
  refine aw_if_lt (pc := 1) (tgt := 20) dX1_moveCard_1 (by decide) (fun c1 => ?_) (fun c1 => ?_)
  · replace g := g.1 c1
    exact aw_return (pc := 20) dX1_moveCard_20 rfl g (by decide) (by decide)
  · replace g := g.2 c1
    refine aw_iload_n (pc := 4) dX1_moveCard_4 rfl ?_
    refine aw_bipush (pc := 5) dX1_moveCard_5 ?_
    refine aw_icmp_ge (pc := 7) (tgt := 20) dX1_moveCard_7 (by decide) (fun c2 => ?_) (fun c2 => ?_)
    · replace g := g.1 c2
      exact aw_return (pc := 20) dX1_moveCard_20 rfl g (by decide) (by decide)
    · replace g := g.2 c2
      refine aw_iload_n (pc := 10) dX1_moveCard_10 rfl ?_
      refine aw_if_lt (pc := 11) (tgt := 20) dX1_moveCard_11 (by decide) (fun c3 => ?_) (fun c3 => ?_)
      · replace g := g.1 c3
        exact aw_return (pc := 20) dX1_moveCard_20 rfl g (by decide) (by decide)
      · replace g := g.2 c3
        refine aw_iload_n (pc := 14) dX1_moveCard_14 rfl ?_
        refine aw_bipush (pc := 15) dX1_moveCard_15 ?_
        refine aw_icmp_lt (pc := 17) (tgt := 21) dX1_moveCard_17 (by decide) (fun c4 => ?_) (fun c4 => ?_)
        · replace g := g.1 c4
          refine aw_aload_n (pc := 21) dX1_moveCard_21 rfl ?_
          refine aw_getr (pc := 22) (r := some (p + 1)) dX1_moveCard_22 fl_X1_9 (by decide) rfl kp rp_names ?_
          refine aw_iload_n (pc := 25) dX1_moveCard_25 rfl ?_
          refine aw_aload_n (pc := 26) dX1_moveCard_26 rfl ?_
          refine aw_getr (pc := 27) (r := some (p + 1)) dX1_moveCard_27 fl_X1_9 (by decide) rfl kp rp_names ?_
          refine aw_iload_n (pc := 30) dX1_moveCard_30 rfl ?_
          obtain ⟨s5, g⟩ := g
          refine ax_iaload (pc := 31) (n := 20) (v := hi h (p + 1) x1) dX1_moveCard_31 kp_names s5 rfl ?_
          obtain ⟨s6, g⟩ := g
          refine ax_iastore (pc := 32) (n := 20) dX1_moveCard_32 kp_names s6 ?_
          refine aw_aload_n (pc := 33) dX1_moveCard_33 rfl ?_
          refine aw_getr (pc := 34) (r := some (p + 2)) dX1_moveCard_34 fl_X1_15 (by decide) rfl kp rp_asksToGo ?_
          refine aw_iload_n (pc := 37) dX1_moveCard_37 rfl ?_
          refine aw_aload_n (pc := 38) dX1_moveCard_38 rfl ?_
          refine aw_getr (pc := 39) (r := some (p + 2)) dX1_moveCard_39 fl_X1_15 (by decide) rfl kp rp_asksToGo ?_
          refine aw_iload_n (pc := 42) dX1_moveCard_42 rfl ?_
          refine ax_iaload (pc := 43) (n := 20) (v := hi h (p + 2) x1) dX1_moveCard_43 kp_asksToGo s5 (by simp [hi_up]) ?_
          refine ax_iastore (pc := 44) (n := 20) dX1_moveCard_44 kp_asksToGo s6 ?_
          refine aw_aload_n (pc := 45) dX1_moveCard_45 rfl ?_
          refine aw_getr (pc := 46) (r := some (p + 3)) dX1_moveCard_46 fl_X1_18 (by decide) rfl kp rp_tellings ?_
          refine aw_iload_n (pc := 49) dX1_moveCard_49 rfl ?_
          refine aw_aload_n (pc := 50) dX1_moveCard_50 rfl ?_
          refine aw_getr (pc := 51) (r := some (p + 3)) dX1_moveCard_51 fl_X1_18 (by decide) rfl kp rp_tellings ?_
          refine aw_iload_n (pc := 54) dX1_moveCard_54 rfl ?_
          refine ax_iaload (pc := 55) (n := 20) (v := hi h (p + 3) x1) dX1_moveCard_55 kp_tellings s5 (by simp [hi_up]) ?_
          refine ax_iastore (pc := 56) (n := 20) dX1_moveCard_56 kp_tellings s6 ?_
          refine aw_aload_n (pc := 57) dX1_moveCard_57 rfl ?_
          refine aw_getr (pc := 58) (r := some (p + 4)) dX1_moveCard_58 fl_X1_21 (by decide) rfl kp rp_slots ?_
          refine aw_iload_n (pc := 61) dX1_moveCard_61 rfl ?_
          refine aw_aload_n (pc := 62) dX1_moveCard_62 rfl ?_
          refine aw_getr (pc := 63) (r := some (p + 4)) dX1_moveCard_63 fl_X1_21 (by decide) rfl kp rp_slots ?_
          refine aw_iload_n (pc := 66) dX1_moveCard_66 rfl ?_
          refine ax_iaload (pc := 67) (n := 20) (v := hi h (p + 4) x1) dX1_moveCard_67 kp_slots s5 (by simp [hi_up]) ?_
          refine ax_iastore (pc := 68) (n := 20) dX1_moveCard_68 kp_slots s6 ?_
          refine aw_aload_n (pc := 69) dX1_moveCard_69 rfl ?_
          refine aw_getr (pc := 70) (r := some (p + 5)) dX1_moveCard_70 fl_X1_24 (by decide) rfl kp rp_awake ?_
          refine aw_iload_n (pc := 73) dX1_moveCard_73 rfl ?_
          refine aw_aload_n (pc := 74) dX1_moveCard_74 rfl ?_
          refine aw_getr (pc := 75) (r := some (p + 5)) dX1_moveCard_75 fl_X1_24 (by decide) rfl kp rp_awake ?_
          refine aw_iload_n (pc := 78) dX1_moveCard_78 rfl ?_
          refine ax_baload (pc := 79) (n := 20) (v := hi h (p + 5) x1) dX1_moveCard_79 kp_awake s5 (by simp [hi_up]) ?_
          obtain ⟨s7, g⟩ := g
          refine ax_bastore (pc := 80) (n := 20) dX1_moveCard_80 kp_awake s6 s7 ?_
          exact aw_return (pc := 81) dX1_moveCard_81 rfl g (by decide) (by decide)
        · replace g := g.2 c4
          exact aw_return (pc := 20) dX1_moveCard_20 rfl g (by decide) (by decide)
set_option maxRecDepth 100000 in
set_option maxHeartbeats 4000000 in
theorem vc_X1_sleepAt {d : Nat} {Q : Option Int → AH → Prop} {h : AH} {p : Nat} {x1 : Int} (hd : 1 ≤ d) (hL : QP h p)
  (g :
    AM (d - 1) m_X1_isCard [(.inr (some p)), (.inl x1)] h (fun r h1 => 
      ∃ v2, r = some v2 ∧ SS h h1 ∧
      ((v2 = 0 → (
        Q none h1
      )) ∧
      (¬ (v2 = 0) → (
        (0 ≤ x1 ∧ x1 < 20) ∧
        Q none (up h1 (p + 5) x1 0)
      ))))) :
  AM d m_X1_sleepAt [(.inr (some p)), (.inl x1)] h Q := by
  refine am_body mo_X1_sleepAt (Nat.le_of_ble_eq_true rfl) ?_
  show AW m_X1_sleepAt d none Q 0 [some (.inr (some p)), some (.inl x1)] [] h (0, 0)
  obtain ⟨kp, rp_names, kp_names, rp_asksToGo, kp_asksToGo, rp_tellings, kp_tellings, rp_slots, kp_slots, rp_awake, kp_awake, rp_answering, kp_answering⟩ := id hL
  refine aw_aload_n (pc := 0) dX1_sleepAt_0 rfl ?_
  refine aw_iload_n (pc := 1) dX1_sleepAt_1 rfl ?_
  refine aw_invV (pc := 2) (md' := m_X1_isCard) (ci := 1) (as := [(.inl x1)]) dX1_sleepAt_2 mo_X1_isCard im_X1_isCard se_X1_isCard ml_X1_35 rfl kp rfl hd (Nat.le_of_ble_eq_true rfl) (Nat.le_of_ble_eq_true rfl) (Nat.le_of_ble_eq_true rfl) ?_
  refine am_mono g (fun _ h1 _ ok_h1 g => ?_)
  obtain ⟨v2, rfl, ss_h1, g⟩ := g
  have hL := QP.ss (h := h) hL ss_h1
  obtain ⟨kp, rp_names, kp_names, rp_asksToGo, kp_asksToGo, rp_tellings, kp_tellings, rp_slots, kp_slots, rp_awake, kp_awake, rp_answering, kp_answering⟩ := id hL
  show AW m_X1_sleepAt d none Q 5 [some (.inr (some p)), some (.inl x1)] [(.inl v2)] h1 (0, 0)
  refine aw_if_eq (pc := 5) (tgt := 15) dX1_sleepAt_5 (by decide) (fun c3 => ?_) (fun c3 => ?_)
  · replace g := g.1 c3
    exact aw_return (pc := 15) dX1_sleepAt_15 rfl g (by decide) (by decide)
  · replace g := g.2 c3
    refine aw_aload_n (pc := 8) dX1_sleepAt_8 rfl ?_
    refine aw_getr (pc := 9) (r := some (p + 5)) dX1_sleepAt_9 fl_X1_24 (by decide) rfl kp rp_awake ?_
    refine aw_iload_n (pc := 12) dX1_sleepAt_12 rfl ?_
    refine aw_iconst (pc := 13) dX1_sleepAt_13 ?_
    obtain ⟨s4, g⟩ := g
    refine ax_bastore (pc := 14) (n := 20) dX1_sleepAt_14 kp_awake s4 (by decide) ?_
    exact aw_return (pc := 15) dX1_sleepAt_15 rfl g (by decide) (by decide)
set_option maxRecDepth 100000 in
set_option maxHeartbeats 4000000 in
theorem vc_X1_wakeEach {d : Nat} {Q : Option Int → AH → Prop} {h : AH} {p : Nat} (hL : QP h p)
  (g :
    AW m_X1_wakeEach d none Q 2 [some (.inr (some p)), some (.inl 0)] [] h (0, 0)) :
  AM d m_X1_wakeEach [(.inr (some p))] h Q := by
  refine am_body mo_X1_wakeEach (Nat.le_of_ble_eq_true rfl) ?_
  show AW m_X1_wakeEach d none Q 0 [some (.inr (some p)), none] [] h (0, 0)
  obtain ⟨kp, rp_names, kp_names, rp_asksToGo, kp_asksToGo, rp_tellings, kp_tellings, rp_slots, kp_slots, rp_awake, kp_awake, rp_answering, kp_answering⟩ := id hL
  refine aw_iconst (pc := 0) dX1_wakeEach_0 ?_
  refine ax_istore_n (pc := 1) (ls' := [some (.inr (some p)), some (.inl 0)]) dX1_wakeEach_1 (Nat.le_of_ble_eq_true rfl) rfl ?_
  exact g
set_option maxRecDepth 100000 in
set_option maxHeartbeats 4000000 in
theorem vc_X1_wakeEach_2 {d : Nat} {Q : Option Int → AH → Prop} {h : AH} {p : Nat} {x1 : Int} (hL : QP h p)
  (g :
    ((hi h p 6 ≤ x1 → (
      Q none h
    )) ∧
    (¬ (hi h p 6 ≤ x1) → (
      ((20 ≤ x1 → (
        Q none h
      )) ∧
      (¬ (20 ≤ x1) → (
        (0 ≤ x1 ∧ x1 < 20) ∧
        (rg (x1 + 1)) ∧
        AW m_X1_wakeEach d none Q 2 [some (.inr (some p)), some (.inl (x1 + 1))] [] (up h (p + 5) x1 1) (0, 0)
      )))
    )))) :
  AW m_X1_wakeEach d none Q 2 [some (.inr (some p)), some (.inl x1)] [] h (0, 0) := by
  obtain ⟨kp, rp_names, kp_names, rp_asksToGo, kp_asksToGo, rp_tellings, kp_tellings, rp_slots, kp_slots, rp_awake, kp_awake, rp_answering, kp_answering⟩ := id hL
  refine aw_iload_n (pc := 2) dX1_wakeEach_2 rfl ?_
  refine aw_aload_n (pc := 3) dX1_wakeEach_3 rfl ?_
  refine ax_geti (pc := 4) (v := hi h p 6) dX1_wakeEach_4 fl_X1_31 (by decide) rfl kp rfl ?_
  refine aw_icmp_ge (pc := 7) (tgt := 29) dX1_wakeEach_7 (by decide) (fun c1 => ?_) (fun c1 => ?_)
  · replace g := g.1 c1
    exact aw_return (pc := 29) dX1_wakeEach_29 rfl g (by decide) (by decide)
  · replace g := g.2 c1
    refine aw_iload_n (pc := 10) dX1_wakeEach_10 rfl ?_
    refine aw_bipush (pc := 11) dX1_wakeEach_11 ?_
    refine aw_icmp_ge (pc := 13) (tgt := 29) dX1_wakeEach_13 (by decide) (fun c2 => ?_) (fun c2 => ?_)
    · replace g := g.1 c2
      exact aw_return (pc := 29) dX1_wakeEach_29 rfl g (by decide) (by decide)
    · replace g := g.2 c2
      refine aw_aload_n (pc := 16) dX1_wakeEach_16 rfl ?_
      refine aw_getr (pc := 17) (r := some (p + 5)) dX1_wakeEach_17 fl_X1_24 (by decide) rfl kp rp_awake ?_
      refine aw_iload_n (pc := 20) dX1_wakeEach_20 rfl ?_
      refine aw_iconst (pc := 21) dX1_wakeEach_21 ?_
      obtain ⟨s3, g⟩ := g
      refine ax_bastore (pc := 22) (n := 20) dX1_wakeEach_22 kp_awake s3 (by decide) ?_
      obtain ⟨s4, g⟩ := g
      refine ax_iinc (pc := 23) (v' := x1 + 1) (ls' := [some (.inr (some p)), some (.inl (x1 + 1))]) dX1_wakeEach_23 rfl s4 rfl rfl ?_
      refine aw_goto (pc := 26) (tgt := 2) dX1_wakeEach_26 (by decide) ?_
      exact g
set_option maxRecDepth 100000 in
set_option maxHeartbeats 4000000 in
theorem vc_X1_leaveAt {d : Nat} {Q : Option Int → AH → Prop} {h : AH} {p : Nat} {x1 x2 : Int} (hd : 1 ≤ d) (hL : QP h p)
  (g :
    AM (d - 1) m_X1_isCard [(.inr (some p)), (.inl x1)] h (fun r h1 => 
      ∃ v2, r = some v2 ∧ SS h h1 ∧
      ((v2 = 0 → (
        Q none h1
      )) ∧
      (¬ (v2 = 0) → (
        (0 ≤ x1 ∧ x1 < 20) ∧
        Q none (up h1 (p + 2) x1 x2)
      ))))) :
  AM d m_X1_leaveAt [(.inr (some p)), (.inl x1), (.inl x2)] h Q := by
  refine am_body mo_X1_leaveAt (Nat.le_of_ble_eq_true rfl) ?_
  show AW m_X1_leaveAt d none Q 0 [some (.inr (some p)), some (.inl x1), some (.inl x2)] [] h (0, 0)
  obtain ⟨kp, rp_names, kp_names, rp_asksToGo, kp_asksToGo, rp_tellings, kp_tellings, rp_slots, kp_slots, rp_awake, kp_awake, rp_answering, kp_answering⟩ := id hL
  refine aw_aload_n (pc := 0) dX1_leaveAt_0 rfl ?_
  refine aw_iload_n (pc := 1) dX1_leaveAt_1 rfl ?_
  refine aw_invV (pc := 2) (md' := m_X1_isCard) (ci := 1) (as := [(.inl x1)]) dX1_leaveAt_2 mo_X1_isCard im_X1_isCard se_X1_isCard ml_X1_35 rfl kp rfl hd (Nat.le_of_ble_eq_true rfl) (Nat.le_of_ble_eq_true rfl) (Nat.le_of_ble_eq_true rfl) ?_
  refine am_mono g (fun _ h1 _ ok_h1 g => ?_)
  obtain ⟨v2, rfl, ss_h1, g⟩ := g
  have hL := QP.ss (h := h) hL ss_h1
  obtain ⟨kp, rp_names, kp_names, rp_asksToGo, kp_asksToGo, rp_tellings, kp_tellings, rp_slots, kp_slots, rp_awake, kp_awake, rp_answering, kp_answering⟩ := id hL
  show AW m_X1_leaveAt d none Q 5 [some (.inr (some p)), some (.inl x1), some (.inl x2)] [(.inl v2)] h1 (0, 0)
  refine aw_if_eq (pc := 5) (tgt := 15) dX1_leaveAt_5 (by decide) (fun c3 => ?_) (fun c3 => ?_)
  · replace g := g.1 c3
    exact aw_return (pc := 15) dX1_leaveAt_15 rfl g (by decide) (by decide)
  · replace g := g.2 c3
    refine aw_aload_n (pc := 8) dX1_leaveAt_8 rfl ?_
    refine aw_getr (pc := 9) (r := some (p + 2)) dX1_leaveAt_9 fl_X1_15 (by decide) rfl kp rp_asksToGo ?_
    refine aw_iload_n (pc := 12) dX1_leaveAt_12 rfl ?_
    refine aw_iload_n (pc := 13) dX1_leaveAt_13 rfl ?_
    obtain ⟨s4, g⟩ := g
    refine ax_iastore (pc := 14) (n := 20) dX1_leaveAt_14 kp_asksToGo s4 ?_
    exact aw_return (pc := 15) dX1_leaveAt_15 rfl g (by decide) (by decide)
set_option maxRecDepth 100000 in
set_option maxHeartbeats 4000000 in
theorem vc_X1_tellAt {d : Nat} {Q : Option Int → AH → Prop} {h : AH} {p : Nat} {x1 : Int} (hd : 1 ≤ d) (hL : QP h p)
  (g :
    AM (d - 1) m_X1_isCard [(.inr (some p)), (.inl x1)] h (fun r h1 => 
      ∃ v2, r = some v2 ∧ SS h h1 ∧
      ((v2 = 0 → (
        Q none h1
      )) ∧
      (¬ (v2 = 0) → (
        (0 ≤ x1 ∧ x1 < 20) ∧
        (rg ((hi h1 (p + 3) x1) + 1)) ∧
        Q none (up h1 (p + 3) x1 ((hi h1 (p + 3) x1) + 1))
      ))))) :
  AM d m_X1_tellAt [(.inr (some p)), (.inl x1)] h Q := by
  refine am_body mo_X1_tellAt (Nat.le_of_ble_eq_true rfl) ?_
  show AW m_X1_tellAt d none Q 0 [some (.inr (some p)), some (.inl x1)] [] h (0, 0)
  obtain ⟨kp, rp_names, kp_names, rp_asksToGo, kp_asksToGo, rp_tellings, kp_tellings, rp_slots, kp_slots, rp_awake, kp_awake, rp_answering, kp_answering⟩ := id hL
  refine aw_aload_n (pc := 0) dX1_tellAt_0 rfl ?_
  refine aw_iload_n (pc := 1) dX1_tellAt_1 rfl ?_
  refine aw_invV (pc := 2) (md' := m_X1_isCard) (ci := 1) (as := [(.inl x1)]) dX1_tellAt_2 mo_X1_isCard im_X1_isCard se_X1_isCard ml_X1_35 rfl kp rfl hd (Nat.le_of_ble_eq_true rfl) (Nat.le_of_ble_eq_true rfl) (Nat.le_of_ble_eq_true rfl) ?_
  refine am_mono g (fun _ h1 _ ok_h1 g => ?_)
  obtain ⟨v2, rfl, ss_h1, g⟩ := g
  have hL := QP.ss (h := h) hL ss_h1
  obtain ⟨kp, rp_names, kp_names, rp_asksToGo, kp_asksToGo, rp_tellings, kp_tellings, rp_slots, kp_slots, rp_awake, kp_awake, rp_answering, kp_answering⟩ := id hL
  show AW m_X1_tellAt d none Q 5 [some (.inr (some p)), some (.inl x1)] [(.inl v2)] h1 (0, 0)
  refine aw_if_eq (pc := 5) (tgt := 18) dX1_tellAt_5 (by decide) (fun c3 => ?_) (fun c3 => ?_)
  · replace g := g.1 c3
    exact aw_return (pc := 18) dX1_tellAt_18 rfl g (by decide) (by decide)
  · replace g := g.2 c3
    refine aw_aload_n (pc := 8) dX1_tellAt_8 rfl ?_
    refine aw_getr (pc := 9) (r := some (p + 3)) dX1_tellAt_9 fl_X1_18 (by decide) rfl kp rp_tellings ?_
    refine aw_iload_n (pc := 12) dX1_tellAt_12 rfl ?_
    refine aw_dup2 (pc := 13) dX1_tellAt_13 ?_
    obtain ⟨s4, g⟩ := g
    refine ax_iaload (pc := 14) (n := 20) (v := hi h1 (p + 3) x1) dX1_tellAt_14 kp_tellings s4 rfl ?_
    refine aw_iconst (pc := 15) dX1_tellAt_15 ?_
    obtain ⟨s5, g⟩ := g
    refine ax_iadd (pc := 16) (v := (hi h1 (p + 3) x1) + 1) dX1_tellAt_16 s5 rfl ?_
    refine ax_iastore (pc := 17) (n := 20) dX1_tellAt_17 kp_tellings s4 ?_
    exact aw_return (pc := 18) dX1_tellAt_18 rfl g (by decide) (by decide)
set_option maxRecDepth 100000 in
set_option maxHeartbeats 4000000 in
theorem vc_X1_slotAt {d : Nat} {Q : Option Int → AH → Prop} {h : AH} {p : Nat} {x1 x2 : Int} (hd : 1 ≤ d) (hL : QP h p)
  (g :
    AM (d - 1) m_X1_isCard [(.inr (some p)), (.inl x1)] h (fun r h1 => 
      ∃ v2, r = some v2 ∧ SS h h1 ∧
      ((v2 = 0 → (
        Q none h1
      )) ∧
      (¬ (v2 = 0) → (
        (0 ≤ x1 ∧ x1 < 20) ∧
        Q none (up h1 (p + 4) x1 x2)
      ))))) :
  AM d m_X1_slotAt [(.inr (some p)), (.inl x1), (.inl x2)] h Q := by
  refine am_body mo_X1_slotAt (Nat.le_of_ble_eq_true rfl) ?_
  show AW m_X1_slotAt d none Q 0 [some (.inr (some p)), some (.inl x1), some (.inl x2)] [] h (0, 0)
  obtain ⟨kp, rp_names, kp_names, rp_asksToGo, kp_asksToGo, rp_tellings, kp_tellings, rp_slots, kp_slots, rp_awake, kp_awake, rp_answering, kp_answering⟩ := id hL
  refine aw_aload_n (pc := 0) dX1_slotAt_0 rfl ?_
  refine aw_iload_n (pc := 1) dX1_slotAt_1 rfl ?_
  refine aw_invV (pc := 2) (md' := m_X1_isCard) (ci := 1) (as := [(.inl x1)]) dX1_slotAt_2 mo_X1_isCard im_X1_isCard se_X1_isCard ml_X1_35 rfl kp rfl hd (Nat.le_of_ble_eq_true rfl) (Nat.le_of_ble_eq_true rfl) (Nat.le_of_ble_eq_true rfl) ?_
  refine am_mono g (fun _ h1 _ ok_h1 g => ?_)
  obtain ⟨v2, rfl, ss_h1, g⟩ := g
  have hL := QP.ss (h := h) hL ss_h1
  obtain ⟨kp, rp_names, kp_names, rp_asksToGo, kp_asksToGo, rp_tellings, kp_tellings, rp_slots, kp_slots, rp_awake, kp_awake, rp_answering, kp_answering⟩ := id hL
  show AW m_X1_slotAt d none Q 5 [some (.inr (some p)), some (.inl x1), some (.inl x2)] [(.inl v2)] h1 (0, 0)
  refine aw_if_eq (pc := 5) (tgt := 15) dX1_slotAt_5 (by decide) (fun c3 => ?_) (fun c3 => ?_)
  · replace g := g.1 c3
    exact aw_return (pc := 15) dX1_slotAt_15 rfl g (by decide) (by decide)
  · replace g := g.2 c3
    refine aw_aload_n (pc := 8) dX1_slotAt_8 rfl ?_
    refine aw_getr (pc := 9) (r := some (p + 4)) dX1_slotAt_9 fl_X1_21 (by decide) rfl kp rp_slots ?_
    refine aw_iload_n (pc := 12) dX1_slotAt_12 rfl ?_
    refine aw_iload_n (pc := 13) dX1_slotAt_13 rfl ?_
    obtain ⟨s4, g⟩ := g
    refine ax_iastore (pc := 14) (n := 20) dX1_slotAt_14 kp_slots s4 ?_
    exact aw_return (pc := 15) dX1_slotAt_15 rfl g (by decide) (by decide)
set_option maxRecDepth 100000 in
set_option maxHeartbeats 4000000 in
theorem vc_X1_letAnswer {d : Nat} {Q : Option Int → AH → Prop} {h : AH} {p : Nat} {x1 x2 : Int} (hd : 1 ≤ d) (hL : QP h p)
  (g :
    AW m_X1_letAnswer d none Q 2 [some (.inr (some p)), some (.inl x1), some (.inl x2), some (.inl 0)] [] h (0, 0)) :
  AM d m_X1_letAnswer [(.inr (some p)), (.inl x1), (.inl x2)] h Q := by
  refine am_body mo_X1_letAnswer (Nat.le_of_ble_eq_true rfl) ?_
  show AW m_X1_letAnswer d none Q 0 [some (.inr (some p)), some (.inl x1), some (.inl x2), none] [] h (0, 0)
  obtain ⟨kp, rp_names, kp_names, rp_asksToGo, kp_asksToGo, rp_tellings, kp_tellings, rp_slots, kp_slots, rp_awake, kp_awake, rp_answering, kp_answering⟩ := id hL
  refine aw_iconst (pc := 0) dX1_letAnswer_0 ?_
  refine ax_istore_n (pc := 1) (ls' := [some (.inr (some p)), some (.inl x1), some (.inl x2), some (.inl 0)]) dX1_letAnswer_1 (Nat.le_of_ble_eq_true rfl) rfl ?_
  exact g
set_option maxRecDepth 100000 in
set_option maxHeartbeats 4000000 in
theorem vc_X1_letAnswer_2 {d : Nat} {Q : Option Int → AH → Prop} {h : AH} {p : Nat} {x1 x2 x3 : Int} (hd : 1 ≤ d) (hL : QP h p)
  (g :
    ((hi h p 6 ≤ x3 → (
      Q none h
    )) ∧
    (¬ (hi h p 6 ≤ x3) → (
      ((20 ≤ x3 → (
        Q none h
      )) ∧
      (¬ (20 ≤ x3) → (
        (0 ≤ x3 ∧ x3 < 20) ∧
        ((hi h (p + 5) x3 = 0 → (
          (rg (x3 + 1)) ∧
          AW m_X1_letAnswer d none Q 2 [some (.inr (some p)), some (.inl x1), some (.inl x2), some (.inl (x3 + 1))] [] (up h (p + 6) x3 0) (0, 0)
        )) ∧
        (¬ (hi h (p + 5) x3 = 0) → (
          AM (d - 1) m_X6_firstBits [(.inl (hi h (p + 1) x3)), (.inl x1)] h (fun r h6 => 
            ∃ v7, r = some v7 ∧ SS h h6 ∧
            ((¬ v7 = x2 → (
              (rg (x3 + 1)) ∧
              AW m_X1_letAnswer d none Q 2 [some (.inr (some p)), some (.inl x1), some (.inl x2), some (.inl (x3 + 1))] [] (up h6 (p + 6) x3 0) (0, 0)
            )) ∧
            (¬ (¬ v7 = x2) → (
              (rg (x3 + 1)) ∧
              AW m_X1_letAnswer d none Q 2 [some (.inr (some p)), some (.inl x1), some (.inl x2), some (.inl (x3 + 1))] [] (up h6 (p + 6) x3 1) (0, 0)
            ))))
        )))
      )))
    )))) :
  AW m_X1_letAnswer d none Q 2 [some (.inr (some p)), some (.inl x1), some (.inl x2), some (.inl x3)] [] h (0, 0) := by
  obtain ⟨kp, rp_names, kp_names, rp_asksToGo, kp_asksToGo, rp_tellings, kp_tellings, rp_slots, kp_slots, rp_awake, kp_awake, rp_answering, kp_answering⟩ := id hL
  refine aw_iload_n (pc := 2) dX1_letAnswer_2 rfl ?_
  refine aw_aload_n (pc := 3) dX1_letAnswer_3 rfl ?_
  refine ax_geti (pc := 4) (v := hi h p 6) dX1_letAnswer_4 fl_X1_31 (by decide) rfl kp rfl ?_
  refine aw_icmp_ge (pc := 7) (tgt := 56) dX1_letAnswer_7 (by decide) (fun c1 => ?_) (fun c1 => ?_)
  · replace g := g.1 c1
    exact aw_return (pc := 56) dX1_letAnswer_56 rfl g (by decide) (by decide)
  · replace g := g.2 c1
    refine aw_iload_n (pc := 10) dX1_letAnswer_10 rfl ?_
    refine aw_bipush (pc := 11) dX1_letAnswer_11 ?_
    refine aw_icmp_ge (pc := 13) (tgt := 56) dX1_letAnswer_13 (by decide) (fun c2 => ?_) (fun c2 => ?_)
    · replace g := g.1 c2
      exact aw_return (pc := 56) dX1_letAnswer_56 rfl g (by decide) (by decide)
    · replace g := g.2 c2
      refine aw_aload_n (pc := 16) dX1_letAnswer_16 rfl ?_
      refine aw_getr (pc := 17) (r := some (p + 6)) dX1_letAnswer_17 fl_X1_28 (by decide) rfl kp rp_answering ?_
      refine aw_iload_n (pc := 20) dX1_letAnswer_20 rfl ?_
      refine aw_aload_n (pc := 21) dX1_letAnswer_21 rfl ?_
      refine aw_getr (pc := 22) (r := some (p + 5)) dX1_letAnswer_22 fl_X1_24 (by decide) rfl kp rp_awake ?_
      refine aw_iload_n (pc := 25) dX1_letAnswer_25 rfl ?_
      obtain ⟨s3, g⟩ := g
      refine ax_baload (pc := 26) (n := 20) (v := hi h (p + 5) x3) dX1_letAnswer_26 kp_awake s3 rfl ?_
      refine aw_if_eq (pc := 27) (tgt := 48) dX1_letAnswer_27 (by decide) (fun c4 => ?_) (fun c4 => ?_)
      · replace g := g.1 c4
        refine aw_iconst (pc := 48) dX1_letAnswer_48 ?_
        refine ax_bastore (pc := 49) (n := 20) dX1_letAnswer_49 kp_answering s3 (by decide) ?_
        obtain ⟨s5, g⟩ := g
        refine ax_iinc (pc := 50) (v' := x3 + 1) (ls' := [some (.inr (some p)), some (.inl x1), some (.inl x2), some (.inl (x3 + 1))]) dX1_letAnswer_50 rfl s5 rfl rfl ?_
        refine aw_goto (pc := 53) (tgt := 2) dX1_letAnswer_53 (by decide) ?_
        exact g
      · replace g := g.2 c4
        refine aw_aload_n (pc := 30) dX1_letAnswer_30 rfl ?_
        refine aw_getr (pc := 31) (r := some (p + 1)) dX1_letAnswer_31 fl_X1_9 (by decide) rfl kp rp_names ?_
        refine aw_iload_n (pc := 34) dX1_letAnswer_34 rfl ?_
        refine ax_iaload (pc := 35) (n := 20) (v := hi h (p + 1) x3) dX1_letAnswer_35 kp_names s3 rfl ?_
        refine aw_iload_n (pc := 36) dX1_letAnswer_36 rfl ?_
        refine aw_invSN (pc := 37) (md' := m_X6_firstBits) (as := [(.inl (hi h (p + 1) x3)), (.inl x1)]) dX1_letAnswer_37 mo_X6_firstBits sm_X6_firstBits nl_X1_52 rfl hd (Nat.le_of_ble_eq_true rfl) (Nat.le_of_ble_eq_true rfl) (Nat.le_of_ble_eq_true rfl) ?_
        refine am_mono g (fun _ h6 _ ok_h6 g => ?_)
        obtain ⟨v7, rfl, ss_h6, g⟩ := g
        have hL := QP.ss (h := h) hL ss_h6
        obtain ⟨kp, rp_names, kp_names, rp_asksToGo, kp_asksToGo, rp_tellings, kp_tellings, rp_slots, kp_slots, rp_awake, kp_awake, rp_answering, kp_answering⟩ := id hL
        show AW m_X1_letAnswer d none Q 40 [some (.inr (some p)), some (.inl x1), some (.inl x2), some (.inl x3)] [(.inl v7), (.inl x3), (.inr (some (p + 6)))] h6 (0, 0)
        refine aw_iload_n (pc := 40) dX1_letAnswer_40 rfl ?_
        refine aw_icmp_ne (pc := 41) (tgt := 48) dX1_letAnswer_41 (by decide) (fun c8 => ?_) (fun c8 => ?_)
        · replace g := g.1 c8
          refine aw_iconst (pc := 48) dX1_letAnswer_48 ?_
          refine ax_bastore (pc := 49) (n := 20) dX1_letAnswer_49 kp_answering s3 (by decide) ?_
          obtain ⟨s9, g⟩ := g
          refine ax_iinc (pc := 50) (v' := x3 + 1) (ls' := [some (.inr (some p)), some (.inl x1), some (.inl x2), some (.inl (x3 + 1))]) dX1_letAnswer_50 rfl s9 rfl rfl ?_
          refine aw_goto (pc := 53) (tgt := 2) dX1_letAnswer_53 (by decide) ?_
          exact g
        · replace g := g.2 c8
          refine aw_iconst (pc := 44) dX1_letAnswer_44 ?_
          refine aw_goto (pc := 45) (tgt := 49) dX1_letAnswer_45 (by decide) ?_
          refine ax_bastore (pc := 49) (n := 20) dX1_letAnswer_49 kp_answering s3 (by decide) ?_
          obtain ⟨s10, g⟩ := g
          refine ax_iinc (pc := 50) (v' := x3 + 1) (ls' := [some (.inr (some p)), some (.inl x1), some (.inl x2), some (.inl (x3 + 1))]) dX1_letAnswer_50 rfl s10 rfl rfl ?_
          refine aw_goto (pc := 53) (tgt := 2) dX1_letAnswer_53 (by decide) ?_
          exact g
set_option maxRecDepth 100000 in
set_option maxHeartbeats 4000000 in
theorem vc_X1_letAnswerIn {d : Nat} {Q : Option Int → AH → Prop} {h : AH} {p : Nat} {x1 : Int} (hL : QP h p)
  (g :
    AW m_X1_letAnswerIn d none Q 2 [some (.inr (some p)), some (.inl x1), some (.inl 0)] [] h (0, 0)) :
  AM d m_X1_letAnswerIn [(.inr (some p)), (.inl x1)] h Q := by
  refine am_body mo_X1_letAnswerIn (Nat.le_of_ble_eq_true rfl) ?_
  show AW m_X1_letAnswerIn d none Q 0 [some (.inr (some p)), some (.inl x1), none] [] h (0, 0)
  obtain ⟨kp, rp_names, kp_names, rp_asksToGo, kp_asksToGo, rp_tellings, kp_tellings, rp_slots, kp_slots, rp_awake, kp_awake, rp_answering, kp_answering⟩ := id hL
  refine aw_iconst (pc := 0) dX1_letAnswerIn_0 ?_
  refine ax_istore_n (pc := 1) (ls' := [some (.inr (some p)), some (.inl x1), some (.inl 0)]) dX1_letAnswerIn_1 (Nat.le_of_ble_eq_true rfl) rfl ?_
  exact g
set_option maxRecDepth 100000 in
set_option maxHeartbeats 4000000 in
theorem vc_X1_letAnswerIn_2 {d : Nat} {Q : Option Int → AH → Prop} {h : AH} {p : Nat} {x1 x2 : Int} (hL : QP h p)
  (g :
    ((hi h p 6 ≤ x2 → (
      Q none h
    )) ∧
    (¬ (hi h p 6 ≤ x2) → (
      ((20 ≤ x2 → (
        Q none h
      )) ∧
      (¬ (20 ≤ x2) → (
        (0 ≤ x2 ∧ x2 < 20) ∧
        ((¬ hi h (p + 4) x2 = x1 → (
          (rg (x2 + 1)) ∧
          AW m_X1_letAnswerIn d none Q 2 [some (.inr (some p)), some (.inl x1), some (.inl (x2 + 1))] [] (up h (p + 6) x2 0) (0, 0)
        )) ∧
        (¬ (¬ hi h (p + 4) x2 = x1) → (
          (rg (x2 + 1)) ∧
          AW m_X1_letAnswerIn d none Q 2 [some (.inr (some p)), some (.inl x1), some (.inl (x2 + 1))] [] (up h (p + 6) x2 1) (0, 0)
        )))
      )))
    )))) :
  AW m_X1_letAnswerIn d none Q 2 [some (.inr (some p)), some (.inl x1), some (.inl x2)] [] h (0, 0) := by
  obtain ⟨kp, rp_names, kp_names, rp_asksToGo, kp_asksToGo, rp_tellings, kp_tellings, rp_slots, kp_slots, rp_awake, kp_awake, rp_answering, kp_answering⟩ := id hL
  refine aw_iload_n (pc := 2) dX1_letAnswerIn_2 rfl ?_
  refine aw_aload_n (pc := 3) dX1_letAnswerIn_3 rfl ?_
  refine ax_geti (pc := 4) (v := hi h p 6) dX1_letAnswerIn_4 fl_X1_31 (by decide) rfl kp rfl ?_
  refine aw_icmp_ge (pc := 7) (tgt := 43) dX1_letAnswerIn_7 (by decide) (fun c1 => ?_) (fun c1 => ?_)
  · replace g := g.1 c1
    exact aw_return (pc := 43) dX1_letAnswerIn_43 rfl g (by decide) (by decide)
  · replace g := g.2 c1
    refine aw_iload_n (pc := 10) dX1_letAnswerIn_10 rfl ?_
    refine aw_bipush (pc := 11) dX1_letAnswerIn_11 ?_
    refine aw_icmp_ge (pc := 13) (tgt := 43) dX1_letAnswerIn_13 (by decide) (fun c2 => ?_) (fun c2 => ?_)
    · replace g := g.1 c2
      exact aw_return (pc := 43) dX1_letAnswerIn_43 rfl g (by decide) (by decide)
    · replace g := g.2 c2
      refine aw_aload_n (pc := 16) dX1_letAnswerIn_16 rfl ?_
      refine aw_getr (pc := 17) (r := some (p + 6)) dX1_letAnswerIn_17 fl_X1_28 (by decide) rfl kp rp_answering ?_
      refine aw_iload_n (pc := 20) dX1_letAnswerIn_20 rfl ?_
      refine aw_aload_n (pc := 21) dX1_letAnswerIn_21 rfl ?_
      refine aw_getr (pc := 22) (r := some (p + 4)) dX1_letAnswerIn_22 fl_X1_21 (by decide) rfl kp rp_slots ?_
      refine aw_iload_n (pc := 25) dX1_letAnswerIn_25 rfl ?_
      obtain ⟨s3, g⟩ := g
      refine ax_iaload (pc := 26) (n := 20) (v := hi h (p + 4) x2) dX1_letAnswerIn_26 kp_slots s3 rfl ?_
      refine aw_iload_n (pc := 27) dX1_letAnswerIn_27 rfl ?_
      refine aw_icmp_ne (pc := 28) (tgt := 35) dX1_letAnswerIn_28 (by decide) (fun c4 => ?_) (fun c4 => ?_)
      · replace g := g.1 c4
        refine aw_iconst (pc := 35) dX1_letAnswerIn_35 ?_
        refine ax_bastore (pc := 36) (n := 20) dX1_letAnswerIn_36 kp_answering s3 (by decide) ?_
        obtain ⟨s5, g⟩ := g
        refine ax_iinc (pc := 37) (v' := x2 + 1) (ls' := [some (.inr (some p)), some (.inl x1), some (.inl (x2 + 1))]) dX1_letAnswerIn_37 rfl s5 rfl rfl ?_
        refine aw_goto (pc := 40) (tgt := 2) dX1_letAnswerIn_40 (by decide) ?_
        exact g
      · replace g := g.2 c4
        refine aw_iconst (pc := 31) dX1_letAnswerIn_31 ?_
        refine aw_goto (pc := 32) (tgt := 36) dX1_letAnswerIn_32 (by decide) ?_
        refine ax_bastore (pc := 36) (n := 20) dX1_letAnswerIn_36 kp_answering s3 (by decide) ?_
        obtain ⟨s6, g⟩ := g
        refine ax_iinc (pc := 37) (v' := x2 + 1) (ls' := [some (.inr (some p)), some (.inl x1), some (.inl (x2 + 1))]) dX1_letAnswerIn_37 rfl s6 rfl rfl ?_
        refine aw_goto (pc := 40) (tgt := 2) dX1_letAnswerIn_40 (by decide) ?_
        exact g
set_option maxRecDepth 100000 in
set_option maxHeartbeats 4000000 in
theorem vc_X1_firstAnswering {d : Nat} {Q : Option Int → AH → Prop} {h : AH} {p : Nat} (hL : QP h p)
  (g :
    AW m_X1_firstAnswering d none Q 2 [some (.inr (some p)), some (.inl 0)] [] h (0, 0)) :
  AM d m_X1_firstAnswering [(.inr (some p))] h Q := by
  refine am_body mo_X1_firstAnswering (Nat.le_of_ble_eq_true rfl) ?_
  show AW m_X1_firstAnswering d none Q 0 [some (.inr (some p)), none] [] h (0, 0)
  obtain ⟨kp, rp_names, kp_names, rp_asksToGo, kp_asksToGo, rp_tellings, kp_tellings, rp_slots, kp_slots, rp_awake, kp_awake, rp_answering, kp_answering⟩ := id hL
  refine aw_iconst (pc := 0) dX1_firstAnswering_0 ?_
  refine ax_istore_n (pc := 1) (ls' := [some (.inr (some p)), some (.inl 0)]) dX1_firstAnswering_1 (Nat.le_of_ble_eq_true rfl) rfl ?_
  exact g
set_option maxRecDepth 100000 in
set_option maxHeartbeats 4000000 in
theorem vc_X1_firstAnswering_2 {d : Nat} {Q : Option Int → AH → Prop} {h : AH} {p : Nat} {x1 : Int} (hL : QP h p)
  (g :
    ((hi h p 6 ≤ x1 → (
      Q (some (-1)) h
    )) ∧
    (¬ (hi h p 6 ≤ x1) → (
      ((20 ≤ x1 → (
        Q (some (-1)) h
      )) ∧
      (¬ (20 ≤ x1) → (
        (0 ≤ x1 ∧ x1 < 20) ∧
        ((hi h (p + 6) x1 = 0 → (
          (rg (x1 + 1)) ∧
          AW m_X1_firstAnswering d none Q 2 [some (.inr (some p)), some (.inl (x1 + 1))] [] h (0, 0)
        )) ∧
        (¬ (hi h (p + 6) x1 = 0) → (
          Q (some x1) h
        )))
      )))
    )))) :
  AW m_X1_firstAnswering d none Q 2 [some (.inr (some p)), some (.inl x1)] [] h (0, 0) := by
  obtain ⟨kp, rp_names, kp_names, rp_asksToGo, kp_asksToGo, rp_tellings, kp_tellings, rp_slots, kp_slots, rp_awake, kp_awake, rp_answering, kp_answering⟩ := id hL
  refine aw_iload_n (pc := 2) dX1_firstAnswering_2 rfl ?_
  refine aw_aload_n (pc := 3) dX1_firstAnswering_3 rfl ?_
  refine ax_geti (pc := 4) (v := hi h p 6) dX1_firstAnswering_4 fl_X1_31 (by decide) rfl kp rfl ?_
  refine aw_icmp_ge (pc := 7) (tgt := 33) dX1_firstAnswering_7 (by decide) (fun c1 => ?_) (fun c1 => ?_)
  · replace g := g.1 c1
    refine aw_iconst (pc := 33) dX1_firstAnswering_33 ?_
    exact ax_ireturn (pc := 34) dX1_firstAnswering_34 rfl g (by decide) (by decide)
  · replace g := g.2 c1
    refine aw_iload_n (pc := 10) dX1_firstAnswering_10 rfl ?_
    refine aw_bipush (pc := 11) dX1_firstAnswering_11 ?_
    refine aw_icmp_ge (pc := 13) (tgt := 33) dX1_firstAnswering_13 (by decide) (fun c2 => ?_) (fun c2 => ?_)
    · replace g := g.1 c2
      refine aw_iconst (pc := 33) dX1_firstAnswering_33 ?_
      exact ax_ireturn (pc := 34) dX1_firstAnswering_34 rfl g (by decide) (by decide)
    · replace g := g.2 c2
      refine aw_aload_n (pc := 16) dX1_firstAnswering_16 rfl ?_
      refine aw_getr (pc := 17) (r := some (p + 6)) dX1_firstAnswering_17 fl_X1_28 (by decide) rfl kp rp_answering ?_
      refine aw_iload_n (pc := 20) dX1_firstAnswering_20 rfl ?_
      obtain ⟨s3, g⟩ := g
      refine ax_baload (pc := 21) (n := 20) (v := hi h (p + 6) x1) dX1_firstAnswering_21 kp_answering s3 rfl ?_
      refine aw_if_eq (pc := 22) (tgt := 27) dX1_firstAnswering_22 (by decide) (fun c4 => ?_) (fun c4 => ?_)
      · replace g := g.1 c4
        obtain ⟨s5, g⟩ := g
        refine ax_iinc (pc := 27) (v' := x1 + 1) (ls' := [some (.inr (some p)), some (.inl (x1 + 1))]) dX1_firstAnswering_27 rfl s5 rfl rfl ?_
        refine aw_goto (pc := 30) (tgt := 2) dX1_firstAnswering_30 (by decide) ?_
        exact g
      · replace g := g.2 c4
        refine aw_iload_n (pc := 25) dX1_firstAnswering_25 rfl ?_
        exact ax_ireturn (pc := 26) dX1_firstAnswering_26 rfl g (by decide) (by decide)
set_option maxRecDepth 100000 in
set_option maxHeartbeats 4000000 in
theorem vc_X1_differencesFrom {d : Nat} {Q : Option Int → AH → Prop} {h : AH} {p : Nat} {x1 : Int} (hL : QP h p)
  (g :
    AW m_X1_differencesFrom d none Q 4 [some (.inr (some p)), some (.inl x1), some (.inl 0), some (.inl 0)] [] h (0, 0)) :
  AM d m_X1_differencesFrom [(.inr (some p)), (.inl x1)] h Q := by
  refine am_body mo_X1_differencesFrom (Nat.le_of_ble_eq_true rfl) ?_
  show AW m_X1_differencesFrom d none Q 0 [some (.inr (some p)), some (.inl x1), none, none] [] h (0, 0)
  obtain ⟨kp, rp_names, kp_names, rp_asksToGo, kp_asksToGo, rp_tellings, kp_tellings, rp_slots, kp_slots, rp_awake, kp_awake, rp_answering, kp_answering⟩ := id hL
  refine aw_iconst (pc := 0) dX1_differencesFrom_0 ?_
  refine ax_istore_n (pc := 1) (ls' := [some (.inr (some p)), some (.inl x1), some (.inl 0), none]) dX1_differencesFrom_1 (Nat.le_of_ble_eq_true rfl) rfl ?_
  refine aw_iconst (pc := 2) dX1_differencesFrom_2 ?_
  refine ax_istore_n (pc := 3) (ls' := [some (.inr (some p)), some (.inl x1), some (.inl 0), some (.inl 0)]) dX1_differencesFrom_3 (Nat.le_of_ble_eq_true rfl) rfl ?_
  exact g
set_option maxRecDepth 100000 in
set_option maxHeartbeats 4000000 in
theorem vc_X1_differencesFrom_4 {d : Nat} {Q : Option Int → AH → Prop} {h : AH} {p : Nat} {x1 x2 x3 : Int} (hL : QP h p)
  (g :
    ((hi h p 6 ≤ x3 → (
      Q (some x2) h
    )) ∧
    (¬ (hi h p 6 ≤ x3) → (
      ((20 ≤ x3 → (
        Q (some x2) h
      )) ∧
      (¬ (20 ≤ x3) → (
        (0 ≤ x3 ∧ x3 < 20) ∧
        ((hi h (p + 6) x3 = 0 → (
          (rg (x3 + 1)) ∧
          AW m_X1_differencesFrom d none Q 4 [some (.inr (some p)), some (.inl x1), some (.inl x2), some (.inl (x3 + 1))] [] h (0, 0)
        )) ∧
        (¬ (hi h (p + 6) x3 = 0) → (
          (rg (x3 + 1)) ∧
          AW m_X1_differencesFrom d none Q 4 [some (.inr (some p)), some (.inl x1), some (.inl (orr x2 (xr (hi h (p + 1) x3) x1))), some (.inl (x3 + 1))] [] h (0, 0)
        )))
      )))
    )))) :
  AW m_X1_differencesFrom d none Q 4 [some (.inr (some p)), some (.inl x1), some (.inl x2), some (.inl x3)] [] h (0, 0) := by
  obtain ⟨kp, rp_names, kp_names, rp_asksToGo, kp_asksToGo, rp_tellings, kp_tellings, rp_slots, kp_slots, rp_awake, kp_awake, rp_answering, kp_answering⟩ := id hL
  refine aw_iload_n (pc := 4) dX1_differencesFrom_4 rfl ?_
  refine aw_aload_n (pc := 5) dX1_differencesFrom_5 rfl ?_
  refine ax_geti (pc := 6) (v := hi h p 6) dX1_differencesFrom_6 fl_X1_31 (by decide) rfl kp rfl ?_
  refine aw_icmp_ge (pc := 9) (tgt := 44) dX1_differencesFrom_9 (by decide) (fun c1 => ?_) (fun c1 => ?_)
  · replace g := g.1 c1
    refine aw_iload_n (pc := 44) dX1_differencesFrom_44 rfl ?_
    exact ax_ireturn (pc := 45) dX1_differencesFrom_45 rfl g (by decide) (by decide)
  · replace g := g.2 c1
    refine aw_iload_n (pc := 12) dX1_differencesFrom_12 rfl ?_
    refine aw_bipush (pc := 13) dX1_differencesFrom_13 ?_
    refine aw_icmp_ge (pc := 15) (tgt := 44) dX1_differencesFrom_15 (by decide) (fun c2 => ?_) (fun c2 => ?_)
    · replace g := g.1 c2
      refine aw_iload_n (pc := 44) dX1_differencesFrom_44 rfl ?_
      exact ax_ireturn (pc := 45) dX1_differencesFrom_45 rfl g (by decide) (by decide)
    · replace g := g.2 c2
      refine aw_aload_n (pc := 18) dX1_differencesFrom_18 rfl ?_
      refine aw_getr (pc := 19) (r := some (p + 6)) dX1_differencesFrom_19 fl_X1_28 (by decide) rfl kp rp_answering ?_
      refine aw_iload_n (pc := 22) dX1_differencesFrom_22 rfl ?_
      obtain ⟨s3, g⟩ := g
      refine ax_baload (pc := 23) (n := 20) (v := hi h (p + 6) x3) dX1_differencesFrom_23 kp_answering s3 rfl ?_
      refine aw_if_eq (pc := 24) (tgt := 38) dX1_differencesFrom_24 (by decide) (fun c4 => ?_) (fun c4 => ?_)
      · replace g := g.1 c4
        obtain ⟨s5, g⟩ := g
        refine ax_iinc (pc := 38) (v' := x3 + 1) (ls' := [some (.inr (some p)), some (.inl x1), some (.inl x2), some (.inl (x3 + 1))]) dX1_differencesFrom_38 rfl s5 rfl rfl ?_
        refine aw_goto (pc := 41) (tgt := 4) dX1_differencesFrom_41 (by decide) ?_
        exact g
      · replace g := g.2 c4
        refine aw_iload_n (pc := 27) dX1_differencesFrom_27 rfl ?_
        refine aw_aload_n (pc := 28) dX1_differencesFrom_28 rfl ?_
        refine aw_getr (pc := 29) (r := some (p + 1)) dX1_differencesFrom_29 fl_X1_9 (by decide) rfl kp rp_names ?_
        refine aw_iload_n (pc := 32) dX1_differencesFrom_32 rfl ?_
        refine ax_iaload (pc := 33) (n := 20) (v := hi h (p + 1) x3) dX1_differencesFrom_33 kp_names s3 rfl ?_
        refine aw_iload_n (pc := 34) dX1_differencesFrom_34 rfl ?_
        refine aw_ixor (pc := 35) dX1_differencesFrom_35 ?_
        refine aw_ior (pc := 36) dX1_differencesFrom_36 ?_
        refine ax_istore_n (pc := 37) (ls' := [some (.inr (some p)), some (.inl x1), some (.inl (orr x2 (xr (hi h (p + 1) x3) x1))), some (.inl x3)]) dX1_differencesFrom_37 (Nat.le_of_ble_eq_true rfl) rfl ?_
        obtain ⟨s6, g⟩ := g
        refine ax_iinc (pc := 38) (v' := x3 + 1) (ls' := [some (.inr (some p)), some (.inl x1), some (.inl (orr x2 (xr (hi h (p + 1) x3) x1))), some (.inl (x3 + 1))]) dX1_differencesFrom_38 rfl s6 rfl rfl ?_
        refine aw_goto (pc := 41) (tgt := 4) dX1_differencesFrom_41 (by decide) ?_
        exact g
set_option maxRecDepth 100000 in
set_option maxHeartbeats 4000000 in
theorem vc_X1_passAsk {d : Nat} {Q : Option Int → AH → Prop} {h : AH} {p : Nat} (hd : 1 ≤ d) (hL : QP h p)
  (g :
    AW m_X1_passAsk d none Q 4 [some (.inr (some p)), some (.inl 0), some (.inl 0), none] [] h (0, 0)) :
  AM d m_X1_passAsk [(.inr (some p))] h Q := by
  refine am_body mo_X1_passAsk (Nat.le_of_ble_eq_true rfl) ?_
  show AW m_X1_passAsk d none Q 0 [some (.inr (some p)), none, none, none] [] h (0, 0)
  obtain ⟨kp, rp_names, kp_names, rp_asksToGo, kp_asksToGo, rp_tellings, kp_tellings, rp_slots, kp_slots, rp_awake, kp_awake, rp_answering, kp_answering⟩ := id hL
  refine aw_iconst (pc := 0) dX1_passAsk_0 ?_
  refine ax_istore_n (pc := 1) (ls' := [some (.inr (some p)), some (.inl 0), none, none]) dX1_passAsk_1 (Nat.le_of_ble_eq_true rfl) rfl ?_
  refine aw_iconst (pc := 2) dX1_passAsk_2 ?_
  refine ax_istore_n (pc := 3) (ls' := [some (.inr (some p)), some (.inl 0), some (.inl 0), none]) dX1_passAsk_3 (Nat.le_of_ble_eq_true rfl) rfl ?_
  exact g
set_option maxRecDepth 100000 in
set_option maxHeartbeats 4000000 in
theorem vc_X1_passAsk_4 {d : Nat} {Q : Option Int → AH → Prop} {h : AH} {p : Nat} {x1 x2 : Int} (hd : 1 ≤ d) (hL : QP h p)
  (g :
    ((hi h p 6 ≤ x2 → (
      (rg (x2 - x1)) ∧
      Q (some (x2 - x1)) (up h p 6 x1)
    )) ∧
    (¬ (hi h p 6 ≤ x2) → (
      ((20 ≤ x2 → (
        (rg (x2 - x1)) ∧
        Q (some (x2 - x1)) (up h p 6 x1)
      )) ∧
      (¬ (20 ≤ x2) → (
        (0 ≤ x2 ∧ x2 < 20) ∧
        ((hi h (p + 2) x2 ≤ 0 → (
          ((x2 ≤ x1 → (
            (rg (x1 + 1)) ∧
            (rg (x2 + 1)) ∧
            AW m_X1_passAsk d none Q 4 [some (.inr (some p)), some (.inl (x1 + 1)), some (.inl (x2 + 1)), none] [] h (0, 0)
          )) ∧
          (¬ (x2 ≤ x1) → (
            AM (d - 1) m_X1_moveCard [(.inr (some p)), (.inl x2), (.inl x1)] h (fun r h11 => 
              r = none ∧ SS h h11 ∧
              (rg (x1 + 1)) ∧
              (rg (x2 + 1)) ∧
              AW m_X1_passAsk d none Q 4 [some (.inr (some p)), some (.inl (x1 + 1)), some (.inl (x2 + 1)), none] [] h11 (0, 0))
          )))
        )) ∧
        (¬ (hi h (p + 2) x2 ≤ 0) → (
          (rg ((hi h (p + 2) x2) - 1)) ∧
          ((hi h (p + 2) x2 = 1 → (
            (rg (x2 + 1)) ∧
            AW m_X1_passAsk d none Q 4 [some (.inr (some p)), some (.inl x1), some (.inl (x2 + 1)), none] [] (up h (p + 2) x2 ((hi h (p + 2) x2) - 1)) (0, 0)
          )) ∧
          (¬ (hi h (p + 2) x2 = 1) → (
            ((x2 ≤ x1 → (
              (rg (x1 + 1)) ∧
              (rg (x2 + 1)) ∧
              AW m_X1_passAsk d none Q 4 [some (.inr (some p)), some (.inl (x1 + 1)), some (.inl (x2 + 1)), none] [] (up h (p + 2) x2 ((hi h (p + 2) x2) - 1)) (0, 0)
            )) ∧
            (¬ (x2 ≤ x1) → (
              AM (d - 1) m_X1_moveCard [(.inr (some p)), (.inl x2), (.inl x1)] (up h (p + 2) x2 ((hi h (p + 2) x2) - 1)) (fun r h20 => 
                r = none ∧ SS (up h (p + 2) x2 ((hi h (p + 2) x2) - 1)) h20 ∧
                (rg (x1 + 1)) ∧
                (rg (x2 + 1)) ∧
                AW m_X1_passAsk d none Q 4 [some (.inr (some p)), some (.inl (x1 + 1)), some (.inl (x2 + 1)), none] [] h20 (0, 0))
            )))
          )))
        )))
      )))
    )))) :
  AW m_X1_passAsk d none Q 4 [some (.inr (some p)), some (.inl x1), some (.inl x2), none] [] h (0, 0) := by
  obtain ⟨kp, rp_names, kp_names, rp_asksToGo, kp_asksToGo, rp_tellings, kp_tellings, rp_slots, kp_slots, rp_awake, kp_awake, rp_answering, kp_answering⟩ := id hL
  refine aw_iload_n (pc := 4) dX1_passAsk_4 rfl ?_
  refine aw_aload_n (pc := 5) dX1_passAsk_5 rfl ?_
  refine ax_geti (pc := 6) (v := hi h p 6) dX1_passAsk_6 fl_X1_31 (by decide) rfl kp rfl ?_
  refine aw_icmp_ge (pc := 9) (tgt := 63) dX1_passAsk_9 (by decide) (fun c1 => ?_) (fun c1 => ?_)
  · replace g := g.1 c1
    refine aw_aload_n (pc := 63) dX1_passAsk_63 rfl ?_
    refine aw_iload_n (pc := 64) dX1_passAsk_64 rfl ?_
    refine ax_puti (pc := 65) dX1_passAsk_65 fl_X1_31 (by decide) rfl rfl rfl kp ?_
    refine aw_iload_n (pc := 68) dX1_passAsk_68 rfl ?_
    refine aw_iload_n (pc := 69) dX1_passAsk_69 rfl ?_
    obtain ⟨s2, g⟩ := g
    refine ax_isub (pc := 70) (v := x2 - x1) dX1_passAsk_70 s2 rfl ?_
    exact ax_ireturn (pc := 71) dX1_passAsk_71 rfl g (by decide) (by decide)
  · replace g := g.2 c1
    refine aw_iload_n (pc := 12) dX1_passAsk_12 rfl ?_
    refine aw_bipush (pc := 13) dX1_passAsk_13 ?_
    refine aw_icmp_ge (pc := 15) (tgt := 63) dX1_passAsk_15 (by decide) (fun c3 => ?_) (fun c3 => ?_)
    · replace g := g.1 c3
      refine aw_aload_n (pc := 63) dX1_passAsk_63 rfl ?_
      refine aw_iload_n (pc := 64) dX1_passAsk_64 rfl ?_
      refine ax_puti (pc := 65) dX1_passAsk_65 fl_X1_31 (by decide) rfl rfl rfl kp ?_
      refine aw_iload_n (pc := 68) dX1_passAsk_68 rfl ?_
      refine aw_iload_n (pc := 69) dX1_passAsk_69 rfl ?_
      obtain ⟨s4, g⟩ := g
      refine ax_isub (pc := 70) (v := x2 - x1) dX1_passAsk_70 s4 rfl ?_
      exact ax_ireturn (pc := 71) dX1_passAsk_71 rfl g (by decide) (by decide)
    · replace g := g.2 c3
      refine aw_aload_n (pc := 18) dX1_passAsk_18 rfl ?_
      refine aw_getr (pc := 19) (r := some (p + 2)) dX1_passAsk_19 fl_X1_15 (by decide) rfl kp rp_asksToGo ?_
      refine aw_iload_n (pc := 22) dX1_passAsk_22 rfl ?_
      obtain ⟨s5, g⟩ := g
      refine ax_iaload (pc := 23) (n := 20) (v := hi h (p + 2) x2) dX1_passAsk_23 kp_asksToGo s5 rfl ?_
      refine ax_istore_n (pc := 24) (ls' := [some (.inr (some p)), some (.inl x1), some (.inl x2), some (.inl (hi h (p + 2) x2))]) dX1_passAsk_24 (Nat.le_of_ble_eq_true rfl) rfl ?_
      refine aw_iload_n (pc := 25) dX1_passAsk_25 rfl ?_
      refine aw_if_le (pc := 26) (tgt := 38) dX1_passAsk_26 (by decide) (fun c6 => ?_) (fun c6 => ?_)
      · replace g := g.1 c6
        refine aw_iload_n (pc := 38) dX1_passAsk_38 rfl ?_
        refine aw_iconst (pc := 39) dX1_passAsk_39 ?_
        refine aw_icmp_eq (pc := 40) (tgt := 57) dX1_passAsk_40 (by decide) (fun c7 => False.elim (by omega)) (fun c7 => ?_)
        refine aw_iload_n (pc := 43) dX1_passAsk_43 rfl ?_
        refine aw_iload_n (pc := 44) dX1_passAsk_44 rfl ?_
        refine aw_icmp_ge (pc := 45) (tgt := 54) dX1_passAsk_45 (by decide) (fun c8 => ?_) (fun c8 => ?_)
        · replace g := g.1 c8
          obtain ⟨s9, g⟩ := g
          refine ax_iinc (pc := 54) (v' := x1 + 1) (ls' := [some (.inr (some p)), some (.inl (x1 + 1)), some (.inl x2), some (.inl (hi h (p + 2) x2))]) dX1_passAsk_54 rfl s9 rfl rfl ?_
          obtain ⟨s10, g⟩ := g
          refine ax_iinc (pc := 57) (v' := x2 + 1) (ls' := [some (.inr (some p)), some (.inl (x1 + 1)), some (.inl (x2 + 1)), some (.inl (hi h (p + 2) x2))]) dX1_passAsk_57 rfl s10 rfl rfl ?_
          refine aw_goto (pc := 60) (tgt := 4) dX1_passAsk_60 (by decide) ?_
          exact aw_fewer (show subl [some (.inr (some p)), some (.inl (x1 + 1)), some (.inl (x2 + 1)), none] [some (.inr (some p)), some (.inl (x1 + 1)), some (.inl (x2 + 1)), some (.inl (hi h (p + 2) x2))] from (And.intro rfl (And.intro rfl (And.intro rfl trivial)))) g
        · replace g := g.2 c8
          refine aw_aload_n (pc := 48) dX1_passAsk_48 rfl ?_
          refine aw_iload_n (pc := 49) dX1_passAsk_49 rfl ?_
          refine aw_iload_n (pc := 50) dX1_passAsk_50 rfl ?_
          refine aw_invV (pc := 51) (md' := m_X1_moveCard) (ci := 1) (as := [(.inl x2), (.inl x1)]) dX1_passAsk_51 mo_X1_moveCard im_X1_moveCard se_X1_moveCard ml_X1_55 rfl kp rfl hd (Nat.le_of_ble_eq_true rfl) (Nat.le_of_ble_eq_true rfl) (Nat.le_of_ble_eq_true rfl) ?_
          refine am_mono g (fun _ h11 _ ok_h11 g => ?_)
          obtain ⟨rfl, ss_h11, g⟩ := g
          have hL := QP.ss (h := h) hL ss_h11
          obtain ⟨kp, rp_names, kp_names, rp_asksToGo, kp_asksToGo, rp_tellings, kp_tellings, rp_slots, kp_slots, rp_awake, kp_awake, rp_answering, kp_answering⟩ := id hL
          show AW m_X1_passAsk d none Q 54 [some (.inr (some p)), some (.inl x1), some (.inl x2), some (.inl (hi h (p + 2) x2))] [] h11 (0, 0)
          obtain ⟨s12, g⟩ := g
          refine ax_iinc (pc := 54) (v' := x1 + 1) (ls' := [some (.inr (some p)), some (.inl (x1 + 1)), some (.inl x2), some (.inl (hi h (p + 2) x2))]) dX1_passAsk_54 rfl s12 rfl rfl ?_
          obtain ⟨s13, g⟩ := g
          refine ax_iinc (pc := 57) (v' := x2 + 1) (ls' := [some (.inr (some p)), some (.inl (x1 + 1)), some (.inl (x2 + 1)), some (.inl (hi h (p + 2) x2))]) dX1_passAsk_57 rfl s13 rfl rfl ?_
          refine aw_goto (pc := 60) (tgt := 4) dX1_passAsk_60 (by decide) ?_
          exact aw_fewer (show subl [some (.inr (some p)), some (.inl (x1 + 1)), some (.inl (x2 + 1)), none] [some (.inr (some p)), some (.inl (x1 + 1)), some (.inl (x2 + 1)), some (.inl (hi h (p + 2) x2))] from (And.intro rfl (And.intro rfl (And.intro rfl trivial)))) g
      · replace g := g.2 c6
        refine aw_aload_n (pc := 29) dX1_passAsk_29 rfl ?_
        refine aw_getr (pc := 30) (r := some (p + 2)) dX1_passAsk_30 fl_X1_15 (by decide) rfl kp rp_asksToGo ?_
        refine aw_iload_n (pc := 33) dX1_passAsk_33 rfl ?_
        refine aw_iload_n (pc := 34) dX1_passAsk_34 rfl ?_
        refine aw_iconst (pc := 35) dX1_passAsk_35 ?_
        obtain ⟨s14, g⟩ := g
        refine ax_isub (pc := 36) (v := (hi h (p + 2) x2) - 1) dX1_passAsk_36 s14 rfl ?_
        refine ax_iastore (pc := 37) (n := 20) dX1_passAsk_37 kp_asksToGo s5 ?_
        refine aw_iload_n (pc := 38) dX1_passAsk_38 rfl ?_
        refine aw_iconst (pc := 39) dX1_passAsk_39 ?_
        refine aw_icmp_eq (pc := 40) (tgt := 57) dX1_passAsk_40 (by decide) (fun c15 => ?_) (fun c15 => ?_)
        · replace g := g.1 c15
          obtain ⟨s16, g⟩ := g
          refine ax_iinc (pc := 57) (v' := x2 + 1) (ls' := [some (.inr (some p)), some (.inl x1), some (.inl (x2 + 1)), some (.inl (hi h (p + 2) x2))]) dX1_passAsk_57 rfl s16 rfl rfl ?_
          refine aw_goto (pc := 60) (tgt := 4) dX1_passAsk_60 (by decide) ?_
          exact aw_fewer (show subl [some (.inr (some p)), some (.inl x1), some (.inl (x2 + 1)), none] [some (.inr (some p)), some (.inl x1), some (.inl (x2 + 1)), some (.inl (hi h (p + 2) x2))] from (And.intro rfl (And.intro rfl (And.intro rfl trivial)))) g
        · replace g := g.2 c15
          refine aw_iload_n (pc := 43) dX1_passAsk_43 rfl ?_
          refine aw_iload_n (pc := 44) dX1_passAsk_44 rfl ?_
          refine aw_icmp_ge (pc := 45) (tgt := 54) dX1_passAsk_45 (by decide) (fun c17 => ?_) (fun c17 => ?_)
          · replace g := g.1 c17
            obtain ⟨s18, g⟩ := g
            refine ax_iinc (pc := 54) (v' := x1 + 1) (ls' := [some (.inr (some p)), some (.inl (x1 + 1)), some (.inl x2), some (.inl (hi h (p + 2) x2))]) dX1_passAsk_54 rfl s18 rfl rfl ?_
            obtain ⟨s19, g⟩ := g
            refine ax_iinc (pc := 57) (v' := x2 + 1) (ls' := [some (.inr (some p)), some (.inl (x1 + 1)), some (.inl (x2 + 1)), some (.inl (hi h (p + 2) x2))]) dX1_passAsk_57 rfl s19 rfl rfl ?_
            refine aw_goto (pc := 60) (tgt := 4) dX1_passAsk_60 (by decide) ?_
            exact aw_fewer (show subl [some (.inr (some p)), some (.inl (x1 + 1)), some (.inl (x2 + 1)), none] [some (.inr (some p)), some (.inl (x1 + 1)), some (.inl (x2 + 1)), some (.inl (hi h (p + 2) x2))] from (And.intro rfl (And.intro rfl (And.intro rfl trivial)))) g
          · replace g := g.2 c17
            refine aw_aload_n (pc := 48) dX1_passAsk_48 rfl ?_
            refine aw_iload_n (pc := 49) dX1_passAsk_49 rfl ?_
            refine aw_iload_n (pc := 50) dX1_passAsk_50 rfl ?_
            refine aw_invV (pc := 51) (md' := m_X1_moveCard) (ci := 1) (as := [(.inl x2), (.inl x1)]) dX1_passAsk_51 mo_X1_moveCard im_X1_moveCard se_X1_moveCard ml_X1_55 rfl kp rfl hd (Nat.le_of_ble_eq_true rfl) (Nat.le_of_ble_eq_true rfl) (Nat.le_of_ble_eq_true rfl) ?_
            refine am_mono g (fun _ h20 _ ok_h20 g => ?_)
            obtain ⟨rfl, ss_h20, g⟩ := g
            have hL := QP.ss (h := (up h (p + 2) x2 ((hi h (p + 2) x2) - 1))) hL ss_h20
            obtain ⟨kp, rp_names, kp_names, rp_asksToGo, kp_asksToGo, rp_tellings, kp_tellings, rp_slots, kp_slots, rp_awake, kp_awake, rp_answering, kp_answering⟩ := id hL
            show AW m_X1_passAsk d none Q 54 [some (.inr (some p)), some (.inl x1), some (.inl x2), some (.inl (hi h (p + 2) x2))] [] h20 (0, 0)
            obtain ⟨s21, g⟩ := g
            refine ax_iinc (pc := 54) (v' := x1 + 1) (ls' := [some (.inr (some p)), some (.inl (x1 + 1)), some (.inl x2), some (.inl (hi h (p + 2) x2))]) dX1_passAsk_54 rfl s21 rfl rfl ?_
            obtain ⟨s22, g⟩ := g
            refine ax_iinc (pc := 57) (v' := x2 + 1) (ls' := [some (.inr (some p)), some (.inl (x1 + 1)), some (.inl (x2 + 1)), some (.inl (hi h (p + 2) x2))]) dX1_passAsk_57 rfl s22 rfl rfl ?_
            refine aw_goto (pc := 60) (tgt := 4) dX1_passAsk_60 (by decide) ?_
            exact aw_fewer (show subl [some (.inr (some p)), some (.inl (x1 + 1)), some (.inl (x2 + 1)), none] [some (.inr (some p)), some (.inl (x1 + 1)), some (.inl (x2 + 1)), some (.inl (hi h (p + 2) x2))] from (And.intro rfl (And.intro rfl (And.intro rfl trivial)))) g
set_option maxRecDepth 100000 in
set_option maxHeartbeats 4000000 in
theorem vc_X3_copyFrom {d : Nat} {Q : Option Int → AH → Prop} {h : AH} {y : Nat} {q1 : Nat} (hL : QY h y) (hL1 : QY h q1)
  (g :
    Q none (up (up (up (up (up (up (up (up h y 0 (hi h q1 0)) y 1 (hi (up h y 0 (hi h q1 0)) q1 1)) y 2 (hi (up (up h y 0 (hi h q1 0)) y 1 (hi (up h y 0 (hi h q1 0)) q1 1)) q1 2)) y 3 (hi (up (up (up h y 0 (hi h q1 0)) y 1 (hi (up h y 0 (hi h q1 0)) q1 1)) y 2 (hi (up (up h y 0 (hi h q1 0)) y 1 (hi (up h y 0 (hi h q1 0)) q1 1)) q1 2)) q1 3)) y 4 (hi (up (up (up (up h y 0 (hi h q1 0)) y 1 (hi (up h y 0 (hi h q1 0)) q1 1)) y 2 (hi (up (up h y 0 (hi h q1 0)) y 1 (hi (up h y 0 (hi h q1 0)) q1 1)) q1 2)) y 3 (hi (up (up (up h y 0 (hi h q1 0)) y 1 (hi (up h y 0 (hi h q1 0)) q1 1)) y 2 (hi (up (up h y 0 (hi h q1 0)) y 1 (hi (up h y 0 (hi h q1 0)) q1 1)) q1 2)) q1 3)) q1 4)) y 5 (hi (up (up (up (up (up h y 0 (hi h q1 0)) y 1 (hi (up h y 0 (hi h q1 0)) q1 1)) y 2 (hi (up (up h y 0 (hi h q1 0)) y 1 (hi (up h y 0 (hi h q1 0)) q1 1)) q1 2)) y 3 (hi (up (up (up h y 0 (hi h q1 0)) y 1 (hi (up h y 0 (hi h q1 0)) q1 1)) y 2 (hi (up (up h y 0 (hi h q1 0)) y 1 (hi (up h y 0 (hi h q1 0)) q1 1)) q1 2)) q1 3)) y 4 (hi (up (up (up (up h y 0 (hi h q1 0)) y 1 (hi (up h y 0 (hi h q1 0)) q1 1)) y 2 (hi (up (up h y 0 (hi h q1 0)) y 1 (hi (up h y 0 (hi h q1 0)) q1 1)) q1 2)) y 3 (hi (up (up (up h y 0 (hi h q1 0)) y 1 (hi (up h y 0 (hi h q1 0)) q1 1)) y 2 (hi (up (up h y 0 (hi h q1 0)) y 1 (hi (up h y 0 (hi h q1 0)) q1 1)) q1 2)) q1 3)) q1 4)) q1 5)) y 6 (hi (up (up (up (up (up (up h y 0 (hi h q1 0)) y 1 (hi (up h y 0 (hi h q1 0)) q1 1)) y 2 (hi (up (up h y 0 (hi h q1 0)) y 1 (hi (up h y 0 (hi h q1 0)) q1 1)) q1 2)) y 3 (hi (up (up (up h y 0 (hi h q1 0)) y 1 (hi (up h y 0 (hi h q1 0)) q1 1)) y 2 (hi (up (up h y 0 (hi h q1 0)) y 1 (hi (up h y 0 (hi h q1 0)) q1 1)) q1 2)) q1 3)) y 4 (hi (up (up (up (up h y 0 (hi h q1 0)) y 1 (hi (up h y 0 (hi h q1 0)) q1 1)) y 2 (hi (up (up h y 0 (hi h q1 0)) y 1 (hi (up h y 0 (hi h q1 0)) q1 1)) q1 2)) y 3 (hi (up (up (up h y 0 (hi h q1 0)) y 1 (hi (up h y 0 (hi h q1 0)) q1 1)) y 2 (hi (up (up h y 0 (hi h q1 0)) y 1 (hi (up h y 0 (hi h q1 0)) q1 1)) q1 2)) q1 3)) q1 4)) y 5 (hi (up (up (up (up (up h y 0 (hi h q1 0)) y 1 (hi (up h y 0 (hi h q1 0)) q1 1)) y 2 (hi (up (up h y 0 (hi h q1 0)) y 1 (hi (up h y 0 (hi h q1 0)) q1 1)) q1 2)) y 3 (hi (up (up (up h y 0 (hi h q1 0)) y 1 (hi (up h y 0 (hi h q1 0)) q1 1)) y 2 (hi (up (up h y 0 (hi h q1 0)) y 1 (hi (up h y 0 (hi h q1 0)) q1 1)) q1 2)) q1 3)) y 4 (hi (up (up (up (up h y 0 (hi h q1 0)) y 1 (hi (up h y 0 (hi h q1 0)) q1 1)) y 2 (hi (up (up h y 0 (hi h q1 0)) y 1 (hi (up h y 0 (hi h q1 0)) q1 1)) q1 2)) y 3 (hi (up (up (up h y 0 (hi h q1 0)) y 1 (hi (up h y 0 (hi h q1 0)) q1 1)) y 2 (hi (up (up h y 0 (hi h q1 0)) y 1 (hi (up h y 0 (hi h q1 0)) q1 1)) q1 2)) q1 3)) q1 4)) q1 5)) q1 6)) y 7 (hi (up (up (up (up (up (up (up h y 0 (hi h q1 0)) y 1 (hi (up h y 0 (hi h q1 0)) q1 1)) y 2 (hi (up (up h y 0 (hi h q1 0)) y 1 (hi (up h y 0 (hi h q1 0)) q1 1)) q1 2)) y 3 (hi (up (up (up h y 0 (hi h q1 0)) y 1 (hi (up h y 0 (hi h q1 0)) q1 1)) y 2 (hi (up (up h y 0 (hi h q1 0)) y 1 (hi (up h y 0 (hi h q1 0)) q1 1)) q1 2)) q1 3)) y 4 (hi (up (up (up (up h y 0 (hi h q1 0)) y 1 (hi (up h y 0 (hi h q1 0)) q1 1)) y 2 (hi (up (up h y 0 (hi h q1 0)) y 1 (hi (up h y 0 (hi h q1 0)) q1 1)) q1 2)) y 3 (hi (up (up (up h y 0 (hi h q1 0)) y 1 (hi (up h y 0 (hi h q1 0)) q1 1)) y 2 (hi (up (up h y 0 (hi h q1 0)) y 1 (hi (up h y 0 (hi h q1 0)) q1 1)) q1 2)) q1 3)) q1 4)) y 5 (hi (up (up (up (up (up h y 0 (hi h q1 0)) y 1 (hi (up h y 0 (hi h q1 0)) q1 1)) y 2 (hi (up (up h y 0 (hi h q1 0)) y 1 (hi (up h y 0 (hi h q1 0)) q1 1)) q1 2)) y 3 (hi (up (up (up h y 0 (hi h q1 0)) y 1 (hi (up h y 0 (hi h q1 0)) q1 1)) y 2 (hi (up (up h y 0 (hi h q1 0)) y 1 (hi (up h y 0 (hi h q1 0)) q1 1)) q1 2)) q1 3)) y 4 (hi (up (up (up (up h y 0 (hi h q1 0)) y 1 (hi (up h y 0 (hi h q1 0)) q1 1)) y 2 (hi (up (up h y 0 (hi h q1 0)) y 1 (hi (up h y 0 (hi h q1 0)) q1 1)) q1 2)) y 3 (hi (up (up (up h y 0 (hi h q1 0)) y 1 (hi (up h y 0 (hi h q1 0)) q1 1)) y 2 (hi (up (up h y 0 (hi h q1 0)) y 1 (hi (up h y 0 (hi h q1 0)) q1 1)) q1 2)) q1 3)) q1 4)) q1 5)) y 6 (hi (up (up (up (up (up (up h y 0 (hi h q1 0)) y 1 (hi (up h y 0 (hi h q1 0)) q1 1)) y 2 (hi (up (up h y 0 (hi h q1 0)) y 1 (hi (up h y 0 (hi h q1 0)) q1 1)) q1 2)) y 3 (hi (up (up (up h y 0 (hi h q1 0)) y 1 (hi (up h y 0 (hi h q1 0)) q1 1)) y 2 (hi (up (up h y 0 (hi h q1 0)) y 1 (hi (up h y 0 (hi h q1 0)) q1 1)) q1 2)) q1 3)) y 4 (hi (up (up (up (up h y 0 (hi h q1 0)) y 1 (hi (up h y 0 (hi h q1 0)) q1 1)) y 2 (hi (up (up h y 0 (hi h q1 0)) y 1 (hi (up h y 0 (hi h q1 0)) q1 1)) q1 2)) y 3 (hi (up (up (up h y 0 (hi h q1 0)) y 1 (hi (up h y 0 (hi h q1 0)) q1 1)) y 2 (hi (up (up h y 0 (hi h q1 0)) y 1 (hi (up h y 0 (hi h q1 0)) q1 1)) q1 2)) q1 3)) q1 4)) y 5 (hi (up (up (up (up (up h y 0 (hi h q1 0)) y 1 (hi (up h y 0 (hi h q1 0)) q1 1)) y 2 (hi (up (up h y 0 (hi h q1 0)) y 1 (hi (up h y 0 (hi h q1 0)) q1 1)) q1 2)) y 3 (hi (up (up (up h y 0 (hi h q1 0)) y 1 (hi (up h y 0 (hi h q1 0)) q1 1)) y 2 (hi (up (up h y 0 (hi h q1 0)) y 1 (hi (up h y 0 (hi h q1 0)) q1 1)) q1 2)) q1 3)) y 4 (hi (up (up (up (up h y 0 (hi h q1 0)) y 1 (hi (up h y 0 (hi h q1 0)) q1 1)) y 2 (hi (up (up h y 0 (hi h q1 0)) y 1 (hi (up h y 0 (hi h q1 0)) q1 1)) q1 2)) y 3 (hi (up (up (up h y 0 (hi h q1 0)) y 1 (hi (up h y 0 (hi h q1 0)) q1 1)) y 2 (hi (up (up h y 0 (hi h q1 0)) y 1 (hi (up h y 0 (hi h q1 0)) q1 1)) q1 2)) q1 3)) q1 4)) q1 5)) q1 6)) q1 7))) :
  AM d m_X3_copyFrom [(.inr (some y)), (.inr (some q1))] h Q := by
  refine am_body mo_X3_copyFrom (Nat.le_of_ble_eq_true rfl) ?_
  show AW m_X3_copyFrom d none Q 0 [some (.inr (some y)), some (.inr (some q1))] [] h (0, 0)
  have ky := id hL
  have kq1 := id hL1
  refine aw_aload_n (pc := 0) dX3_copyFrom_0 rfl ?_
  refine aw_ifnonnull (pc := 1) (tgt := 5) dX3_copyFrom_1 (by decide) (fun _ => ?_) (fun q => by cases q)
  refine aw_aload_n (pc := 5) dX3_copyFrom_5 rfl ?_
  refine aw_aload_n (pc := 6) dX3_copyFrom_6 rfl ?_
  refine ax_geti (pc := 7) (v := hi h q1 0) dX3_copyFrom_7 fl_X3_9 (by decide) rfl kq1 rfl ?_
  refine ax_puti (pc := 10) dX3_copyFrom_10 fl_X3_9 (by decide) rfl rfl rfl ky ?_
  refine aw_aload_n (pc := 13) dX3_copyFrom_13 rfl ?_
  refine aw_aload_n (pc := 14) dX3_copyFrom_14 rfl ?_
  refine ax_geti (pc := 15) (v := hi (up h y 0 (hi h q1 0)) q1 1) dX3_copyFrom_15 fl_X3_15 (by decide) rfl kq1 rfl ?_
  refine ax_puti (pc := 18) dX3_copyFrom_18 fl_X3_15 (by decide) rfl rfl rfl ky ?_
  refine aw_aload_n (pc := 21) dX3_copyFrom_21 rfl ?_
  refine aw_aload_n (pc := 22) dX3_copyFrom_22 rfl ?_
  refine ax_geti (pc := 23) (v := hi (up (up h y 0 (hi h q1 0)) y 1 (hi (up h y 0 (hi h q1 0)) q1 1)) q1 2) dX3_copyFrom_23 fl_X3_18 (by decide) rfl kq1 rfl ?_
  refine ax_puti (pc := 26) dX3_copyFrom_26 fl_X3_18 (by decide) rfl rfl rfl ky ?_
  refine aw_aload_n (pc := 29) dX3_copyFrom_29 rfl ?_
  refine aw_aload_n (pc := 30) dX3_copyFrom_30 rfl ?_
  refine ax_geti (pc := 31) (v := hi (up (up (up h y 0 (hi h q1 0)) y 1 (hi (up h y 0 (hi h q1 0)) q1 1)) y 2 (hi (up (up h y 0 (hi h q1 0)) y 1 (hi (up h y 0 (hi h q1 0)) q1 1)) q1 2)) q1 3) dX3_copyFrom_31 fl_X3_21 (by decide) rfl kq1 rfl ?_
  refine ax_puti (pc := 34) dX3_copyFrom_34 fl_X3_21 (by decide) rfl rfl rfl ky ?_
  refine aw_aload_n (pc := 37) dX3_copyFrom_37 rfl ?_
  refine aw_aload_n (pc := 38) dX3_copyFrom_38 rfl ?_
  refine ax_geti (pc := 39) (v := hi (up (up (up (up h y 0 (hi h q1 0)) y 1 (hi (up h y 0 (hi h q1 0)) q1 1)) y 2 (hi (up (up h y 0 (hi h q1 0)) y 1 (hi (up h y 0 (hi h q1 0)) q1 1)) q1 2)) y 3 (hi (up (up (up h y 0 (hi h q1 0)) y 1 (hi (up h y 0 (hi h q1 0)) q1 1)) y 2 (hi (up (up h y 0 (hi h q1 0)) y 1 (hi (up h y 0 (hi h q1 0)) q1 1)) q1 2)) q1 3)) q1 4) dX3_copyFrom_39 fl_X3_24 (by decide) rfl kq1 rfl ?_
  refine ax_puti (pc := 42) dX3_copyFrom_42 fl_X3_24 (by decide) rfl rfl rfl ky ?_
  refine aw_aload_n (pc := 45) dX3_copyFrom_45 rfl ?_
  refine aw_aload_n (pc := 46) dX3_copyFrom_46 rfl ?_
  refine ax_geti (pc := 47) (v := hi (up (up (up (up (up h y 0 (hi h q1 0)) y 1 (hi (up h y 0 (hi h q1 0)) q1 1)) y 2 (hi (up (up h y 0 (hi h q1 0)) y 1 (hi (up h y 0 (hi h q1 0)) q1 1)) q1 2)) y 3 (hi (up (up (up h y 0 (hi h q1 0)) y 1 (hi (up h y 0 (hi h q1 0)) q1 1)) y 2 (hi (up (up h y 0 (hi h q1 0)) y 1 (hi (up h y 0 (hi h q1 0)) q1 1)) q1 2)) q1 3)) y 4 (hi (up (up (up (up h y 0 (hi h q1 0)) y 1 (hi (up h y 0 (hi h q1 0)) q1 1)) y 2 (hi (up (up h y 0 (hi h q1 0)) y 1 (hi (up h y 0 (hi h q1 0)) q1 1)) q1 2)) y 3 (hi (up (up (up h y 0 (hi h q1 0)) y 1 (hi (up h y 0 (hi h q1 0)) q1 1)) y 2 (hi (up (up h y 0 (hi h q1 0)) y 1 (hi (up h y 0 (hi h q1 0)) q1 1)) q1 2)) q1 3)) q1 4)) q1 5) dX3_copyFrom_47 fl_X3_27 (by decide) rfl kq1 rfl ?_
  refine ax_puti (pc := 50) dX3_copyFrom_50 fl_X3_27 (by decide) rfl rfl rfl ky ?_
  refine aw_aload_n (pc := 53) dX3_copyFrom_53 rfl ?_
  refine aw_aload_n (pc := 54) dX3_copyFrom_54 rfl ?_
  refine ax_geti (pc := 55) (v := hi (up (up (up (up (up (up h y 0 (hi h q1 0)) y 1 (hi (up h y 0 (hi h q1 0)) q1 1)) y 2 (hi (up (up h y 0 (hi h q1 0)) y 1 (hi (up h y 0 (hi h q1 0)) q1 1)) q1 2)) y 3 (hi (up (up (up h y 0 (hi h q1 0)) y 1 (hi (up h y 0 (hi h q1 0)) q1 1)) y 2 (hi (up (up h y 0 (hi h q1 0)) y 1 (hi (up h y 0 (hi h q1 0)) q1 1)) q1 2)) q1 3)) y 4 (hi (up (up (up (up h y 0 (hi h q1 0)) y 1 (hi (up h y 0 (hi h q1 0)) q1 1)) y 2 (hi (up (up h y 0 (hi h q1 0)) y 1 (hi (up h y 0 (hi h q1 0)) q1 1)) q1 2)) y 3 (hi (up (up (up h y 0 (hi h q1 0)) y 1 (hi (up h y 0 (hi h q1 0)) q1 1)) y 2 (hi (up (up h y 0 (hi h q1 0)) y 1 (hi (up h y 0 (hi h q1 0)) q1 1)) q1 2)) q1 3)) q1 4)) y 5 (hi (up (up (up (up (up h y 0 (hi h q1 0)) y 1 (hi (up h y 0 (hi h q1 0)) q1 1)) y 2 (hi (up (up h y 0 (hi h q1 0)) y 1 (hi (up h y 0 (hi h q1 0)) q1 1)) q1 2)) y 3 (hi (up (up (up h y 0 (hi h q1 0)) y 1 (hi (up h y 0 (hi h q1 0)) q1 1)) y 2 (hi (up (up h y 0 (hi h q1 0)) y 1 (hi (up h y 0 (hi h q1 0)) q1 1)) q1 2)) q1 3)) y 4 (hi (up (up (up (up h y 0 (hi h q1 0)) y 1 (hi (up h y 0 (hi h q1 0)) q1 1)) y 2 (hi (up (up h y 0 (hi h q1 0)) y 1 (hi (up h y 0 (hi h q1 0)) q1 1)) q1 2)) y 3 (hi (up (up (up h y 0 (hi h q1 0)) y 1 (hi (up h y 0 (hi h q1 0)) q1 1)) y 2 (hi (up (up h y 0 (hi h q1 0)) y 1 (hi (up h y 0 (hi h q1 0)) q1 1)) q1 2)) q1 3)) q1 4)) q1 5)) q1 6) dX3_copyFrom_55 fl_X3_30 (by decide) rfl kq1 rfl ?_
  refine ax_puti (pc := 58) dX3_copyFrom_58 fl_X3_30 (by decide) rfl rfl rfl ky ?_
  refine aw_aload_n (pc := 61) dX3_copyFrom_61 rfl ?_
  refine aw_aload_n (pc := 62) dX3_copyFrom_62 rfl ?_
  refine ax_geti (pc := 63) (v := hi (up (up (up (up (up (up (up h y 0 (hi h q1 0)) y 1 (hi (up h y 0 (hi h q1 0)) q1 1)) y 2 (hi (up (up h y 0 (hi h q1 0)) y 1 (hi (up h y 0 (hi h q1 0)) q1 1)) q1 2)) y 3 (hi (up (up (up h y 0 (hi h q1 0)) y 1 (hi (up h y 0 (hi h q1 0)) q1 1)) y 2 (hi (up (up h y 0 (hi h q1 0)) y 1 (hi (up h y 0 (hi h q1 0)) q1 1)) q1 2)) q1 3)) y 4 (hi (up (up (up (up h y 0 (hi h q1 0)) y 1 (hi (up h y 0 (hi h q1 0)) q1 1)) y 2 (hi (up (up h y 0 (hi h q1 0)) y 1 (hi (up h y 0 (hi h q1 0)) q1 1)) q1 2)) y 3 (hi (up (up (up h y 0 (hi h q1 0)) y 1 (hi (up h y 0 (hi h q1 0)) q1 1)) y 2 (hi (up (up h y 0 (hi h q1 0)) y 1 (hi (up h y 0 (hi h q1 0)) q1 1)) q1 2)) q1 3)) q1 4)) y 5 (hi (up (up (up (up (up h y 0 (hi h q1 0)) y 1 (hi (up h y 0 (hi h q1 0)) q1 1)) y 2 (hi (up (up h y 0 (hi h q1 0)) y 1 (hi (up h y 0 (hi h q1 0)) q1 1)) q1 2)) y 3 (hi (up (up (up h y 0 (hi h q1 0)) y 1 (hi (up h y 0 (hi h q1 0)) q1 1)) y 2 (hi (up (up h y 0 (hi h q1 0)) y 1 (hi (up h y 0 (hi h q1 0)) q1 1)) q1 2)) q1 3)) y 4 (hi (up (up (up (up h y 0 (hi h q1 0)) y 1 (hi (up h y 0 (hi h q1 0)) q1 1)) y 2 (hi (up (up h y 0 (hi h q1 0)) y 1 (hi (up h y 0 (hi h q1 0)) q1 1)) q1 2)) y 3 (hi (up (up (up h y 0 (hi h q1 0)) y 1 (hi (up h y 0 (hi h q1 0)) q1 1)) y 2 (hi (up (up h y 0 (hi h q1 0)) y 1 (hi (up h y 0 (hi h q1 0)) q1 1)) q1 2)) q1 3)) q1 4)) q1 5)) y 6 (hi (up (up (up (up (up (up h y 0 (hi h q1 0)) y 1 (hi (up h y 0 (hi h q1 0)) q1 1)) y 2 (hi (up (up h y 0 (hi h q1 0)) y 1 (hi (up h y 0 (hi h q1 0)) q1 1)) q1 2)) y 3 (hi (up (up (up h y 0 (hi h q1 0)) y 1 (hi (up h y 0 (hi h q1 0)) q1 1)) y 2 (hi (up (up h y 0 (hi h q1 0)) y 1 (hi (up h y 0 (hi h q1 0)) q1 1)) q1 2)) q1 3)) y 4 (hi (up (up (up (up h y 0 (hi h q1 0)) y 1 (hi (up h y 0 (hi h q1 0)) q1 1)) y 2 (hi (up (up h y 0 (hi h q1 0)) y 1 (hi (up h y 0 (hi h q1 0)) q1 1)) q1 2)) y 3 (hi (up (up (up h y 0 (hi h q1 0)) y 1 (hi (up h y 0 (hi h q1 0)) q1 1)) y 2 (hi (up (up h y 0 (hi h q1 0)) y 1 (hi (up h y 0 (hi h q1 0)) q1 1)) q1 2)) q1 3)) q1 4)) y 5 (hi (up (up (up (up (up h y 0 (hi h q1 0)) y 1 (hi (up h y 0 (hi h q1 0)) q1 1)) y 2 (hi (up (up h y 0 (hi h q1 0)) y 1 (hi (up h y 0 (hi h q1 0)) q1 1)) q1 2)) y 3 (hi (up (up (up h y 0 (hi h q1 0)) y 1 (hi (up h y 0 (hi h q1 0)) q1 1)) y 2 (hi (up (up h y 0 (hi h q1 0)) y 1 (hi (up h y 0 (hi h q1 0)) q1 1)) q1 2)) q1 3)) y 4 (hi (up (up (up (up h y 0 (hi h q1 0)) y 1 (hi (up h y 0 (hi h q1 0)) q1 1)) y 2 (hi (up (up h y 0 (hi h q1 0)) y 1 (hi (up h y 0 (hi h q1 0)) q1 1)) q1 2)) y 3 (hi (up (up (up h y 0 (hi h q1 0)) y 1 (hi (up h y 0 (hi h q1 0)) q1 1)) y 2 (hi (up (up h y 0 (hi h q1 0)) y 1 (hi (up h y 0 (hi h q1 0)) q1 1)) q1 2)) q1 3)) q1 4)) q1 5)) q1 6)) q1 7) dX3_copyFrom_63 fl_X3_33 (by decide) rfl kq1 rfl ?_
  refine ax_puti (pc := 66) dX3_copyFrom_66 fl_X3_33 (by decide) rfl rfl rfl ky ?_
  exact aw_return (pc := 69) dX3_copyFrom_69 rfl g (by decide) (by decide)
set_option maxRecDepth 100000 in
set_option maxHeartbeats 4000000 in
theorem vc_X3_numberOf {d : Nat} {Q : Option Int → AH → Prop} {h : AH} {y : Nat} {x1 : Int} (hL : QY h y)
  (g :
    (((x1 < 4 ∨ 14 < x1 ∨ x1 = 11 ∨ x1 = 12 ∨ x1 = 13) → (
      Q (some (-2)) h
    )) ∧
    (((x1 = 4) → (
      Q (some (hi h y 0)) h
    )) ∧
    (((x1 = 5) → (
      Q (some (hi h y 1)) h
    )) ∧
    (((x1 = 6) → (
      Q (some (hi h y 2)) h
    )) ∧
    (((x1 = 7) → (
      Q (some (hi h y 3)) h
    )) ∧
    (((x1 = 8) → (
      Q (some (hi h y 4)) h
    )) ∧
    (((x1 = 9) → (
      Q (some (hi h y 5)) h
    )) ∧
    (((x1 = 10) → (
      Q (some (hi h y 6)) h
    )) ∧
    (((x1 = 14) → (
      Q (some (hi h y 7)) h
    )))))))))))) :
  AM d m_X3_numberOf [(.inr (some y)), (.inl x1)] h Q := by
  refine am_body mo_X3_numberOf (Nat.le_of_ble_eq_true rfl) ?_
  show AW m_X3_numberOf d none Q 0 [some (.inr (some y)), some (.inl x1)] [] h (0, 0)
  have ky := id hL
  refine aw_iload_n (pc := 0) dX3_numberOf_0 rfl ?_
  by_cases c1 : x1 < 4 ∨ 14 < x1
  · replace g := g.1 (by omega)
    refine aw_tblOut (pc := 1) (tgt := 100) dX3_numberOf_1 c1 (by decide) ?_
    refine aw_bipush (pc := 100) dX3_numberOf_100 ?_
    exact ax_ireturn (pc := 102) dX3_numberOf_102 rfl g (by decide) (by decide)
  · have g0 := g.1
    replace g := g.2
    by_cases c2 : x1 = 11
    · replace g := g0 (by omega)
      refine aw_tblIn (pc := 1) (tgt := 100) dX3_numberOf_1 (by omega) (by omega) (by rw [c2]; rfl) (by decide) ?_
      refine aw_bipush (pc := 100) dX3_numberOf_100 ?_
      exact ax_ireturn (pc := 102) dX3_numberOf_102 rfl g (by decide) (by decide)
    by_cases c3 : x1 = 12
    · replace g := g0 (by omega)
      refine aw_tblIn (pc := 1) (tgt := 100) dX3_numberOf_1 (by omega) (by omega) (by rw [c3]; rfl) (by decide) ?_
      refine aw_bipush (pc := 100) dX3_numberOf_100 ?_
      exact ax_ireturn (pc := 102) dX3_numberOf_102 rfl g (by decide) (by decide)
    by_cases c4 : x1 = 13
    · replace g := g0 (by omega)
      refine aw_tblIn (pc := 1) (tgt := 100) dX3_numberOf_1 (by omega) (by omega) (by rw [c4]; rfl) (by decide) ?_
      refine aw_bipush (pc := 100) dX3_numberOf_100 ?_
      exact ax_ireturn (pc := 102) dX3_numberOf_102 rfl g (by decide) (by decide)
    by_cases c5 : x1 = 4
    · replace g := g.1 c5
      refine aw_tblIn (pc := 1) (tgt := 60) (off := 59) dX3_numberOf_1 (by omega) (by omega) (by rw [c5]; rfl) (by decide) ?_
      refine aw_aload_n (pc := 60) dX3_numberOf_60 rfl ?_
      refine ax_geti (pc := 61) (v := hi h y 0) dX3_numberOf_61 fl_X3_9 (by decide) rfl ky rfl ?_
      exact ax_ireturn (pc := 64) dX3_numberOf_64 rfl g (by decide) (by decide)
    replace g := g.2
    by_cases c6 : x1 = 5
    · replace g := g.1 c6
      refine aw_tblIn (pc := 1) (tgt := 65) (off := 64) dX3_numberOf_1 (by omega) (by omega) (by rw [c6]; rfl) (by decide) ?_
      refine aw_aload_n (pc := 65) dX3_numberOf_65 rfl ?_
      refine ax_geti (pc := 66) (v := hi h y 1) dX3_numberOf_66 fl_X3_15 (by decide) rfl ky rfl ?_
      exact ax_ireturn (pc := 69) dX3_numberOf_69 rfl g (by decide) (by decide)
    replace g := g.2
    by_cases c7 : x1 = 6
    · replace g := g.1 c7
      refine aw_tblIn (pc := 1) (tgt := 70) (off := 69) dX3_numberOf_1 (by omega) (by omega) (by rw [c7]; rfl) (by decide) ?_
      refine aw_aload_n (pc := 70) dX3_numberOf_70 rfl ?_
      refine ax_geti (pc := 71) (v := hi h y 2) dX3_numberOf_71 fl_X3_18 (by decide) rfl ky rfl ?_
      exact ax_ireturn (pc := 74) dX3_numberOf_74 rfl g (by decide) (by decide)
    replace g := g.2
    by_cases c8 : x1 = 7
    · replace g := g.1 c8
      refine aw_tblIn (pc := 1) (tgt := 75) (off := 74) dX3_numberOf_1 (by omega) (by omega) (by rw [c8]; rfl) (by decide) ?_
      refine aw_aload_n (pc := 75) dX3_numberOf_75 rfl ?_
      refine ax_geti (pc := 76) (v := hi h y 3) dX3_numberOf_76 fl_X3_21 (by decide) rfl ky rfl ?_
      exact ax_ireturn (pc := 79) dX3_numberOf_79 rfl g (by decide) (by decide)
    replace g := g.2
    by_cases c9 : x1 = 8
    · replace g := g.1 c9
      refine aw_tblIn (pc := 1) (tgt := 80) (off := 79) dX3_numberOf_1 (by omega) (by omega) (by rw [c9]; rfl) (by decide) ?_
      refine aw_aload_n (pc := 80) dX3_numberOf_80 rfl ?_
      refine ax_geti (pc := 81) (v := hi h y 4) dX3_numberOf_81 fl_X3_24 (by decide) rfl ky rfl ?_
      exact ax_ireturn (pc := 84) dX3_numberOf_84 rfl g (by decide) (by decide)
    replace g := g.2
    by_cases c10 : x1 = 9
    · replace g := g.1 c10
      refine aw_tblIn (pc := 1) (tgt := 85) (off := 84) dX3_numberOf_1 (by omega) (by omega) (by rw [c10]; rfl) (by decide) ?_
      refine aw_aload_n (pc := 85) dX3_numberOf_85 rfl ?_
      refine ax_geti (pc := 86) (v := hi h y 5) dX3_numberOf_86 fl_X3_27 (by decide) rfl ky rfl ?_
      exact ax_ireturn (pc := 89) dX3_numberOf_89 rfl g (by decide) (by decide)
    replace g := g.2
    by_cases c11 : x1 = 10
    · replace g := g.1 c11
      refine aw_tblIn (pc := 1) (tgt := 90) (off := 89) dX3_numberOf_1 (by omega) (by omega) (by rw [c11]; rfl) (by decide) ?_
      refine aw_aload_n (pc := 90) dX3_numberOf_90 rfl ?_
      refine ax_geti (pc := 91) (v := hi h y 6) dX3_numberOf_91 fl_X3_30 (by decide) rfl ky rfl ?_
      exact ax_ireturn (pc := 94) dX3_numberOf_94 rfl g (by decide) (by decide)
    replace g := g.2
    have c12 : x1 = 14 := by omega
    replace g := g c12
    refine aw_tblIn (pc := 1) (tgt := 95) (off := 94) dX3_numberOf_1 (by omega) (by omega) (by rw [c12]; rfl) (by decide) ?_
    refine aw_aload_n (pc := 95) dX3_numberOf_95 rfl ?_
    refine ax_geti (pc := 96) (v := hi h y 7) dX3_numberOf_96 fl_X3_33 (by decide) rfl ky rfl ?_
    exact ax_ireturn (pc := 99) dX3_numberOf_99 rfl g (by decide) (by decide)
set_option maxRecDepth 100000 in
set_option maxHeartbeats 4000000 in
theorem vc_X5_copyFrom {d : Nat} {Q : Option Int → AH → Prop} {h : AH} {t : Nat} {q1 : Nat} (hd : 1 ≤ d) (hL : QT h t) (hL1 : QT h q1)
  (g :
    Q none (up (cpy h (q1 + 1) (t + 1) 0 0 200) t 1 (hi (cpy h (q1 + 1) (t + 1) 0 0 200) q1 1))) :
  AM d m_X5_copyFrom [(.inr (some t)), (.inr (some q1))] h Q := by
  refine am_body mo_X5_copyFrom (Nat.le_of_ble_eq_true rfl) ?_
  show AW m_X5_copyFrom d none Q 0 [some (.inr (some t)), some (.inr (some q1))] [] h (0, 0)
  obtain ⟨kt, rt_row, kt_row⟩ := id hL
  obtain ⟨kq1, rq1_row, kq1_row⟩ := id hL1
  refine aw_aload_n (pc := 0) dX5_copyFrom_0 rfl ?_
  refine aw_ifnonnull (pc := 1) (tgt := 5) dX5_copyFrom_1 (by decide) (fun _ => ?_) (fun q => by cases q)
  refine aw_aload_n (pc := 5) dX5_copyFrom_5 rfl ?_
  refine aw_getr (pc := 6) (r := some (q1 + 1)) dX5_copyFrom_6 fl_X5_9 (by decide) rfl kq1 rq1_row ?_
  refine aw_iconst (pc := 9) dX5_copyFrom_9 ?_
  refine aw_aload_n (pc := 10) dX5_copyFrom_10 rfl ?_
  refine aw_getr (pc := 11) (r := some (t + 1)) dX5_copyFrom_11 fl_X5_9 (by decide) rfl kt rt_row ?_
  refine aw_iconst (pc := 14) dX5_copyFrom_14 ?_
  refine aw_sipush (pc := 15) dX5_copyFrom_15 ?_
  refine aw_copy (pc := 18) (n0 := 200) (n1 := 200) dX5_copyFrom_18 ml_X5_19 nt_copy sm_copy ii_System kq1_row kt_row (by decide) (by decide) (by decide) (by decide) (by decide) hd (Nat.le_of_ble_eq_true rfl) ?_
  refine aw_aload_n (pc := 21) dX5_copyFrom_21 rfl ?_
  refine aw_aload_n (pc := 22) dX5_copyFrom_22 rfl ?_
  refine ax_geti (pc := 23) (v := hi (cpy h (q1 + 1) (t + 1) 0 0 200) q1 1) dX5_copyFrom_23 fl_X5_15 (by decide) rfl kq1 rfl ?_
  refine ax_puti (pc := 26) dX5_copyFrom_26 fl_X5_15 (by decide) rfl rfl rfl kt ?_
  exact aw_return (pc := 29) dX5_copyFrom_29 rfl g (by decide) (by decide)
set_option maxRecDepth 100000 in
set_option maxHeartbeats 4000000 in
theorem vc_X5_names {d : Nat} {Q : Option Int → AH → Prop} {h : AH} {t : Nat} (hL : QT h t)
  (g :
    Q (some (hi h t 1)) h) :
  AM d m_X5_names [(.inr (some t))] h Q := by
  refine am_body mo_X5_names (Nat.le_of_ble_eq_true rfl) ?_
  show AW m_X5_names d none Q 0 [some (.inr (some t))] [] h (0, 0)
  obtain ⟨kt, rt_row, kt_row⟩ := id hL
  refine aw_aload_n (pc := 0) dX5_names_0 rfl ?_
  refine ax_geti (pc := 1) (v := hi h t 1) dX5_names_1 fl_X5_15 (by decide) rfl kt rfl ?_
  exact ax_ireturn (pc := 4) dX5_names_4 rfl g (by decide) (by decide)
set_option maxRecDepth 100000 in
set_option maxHeartbeats 4000000 in
theorem vc_X5_nameAt {d : Nat} {Q : Option Int → AH → Prop} {h : AH} {t : Nat} {x1 : Int} (hL : QT h t)
  (g :
    ((x1 < 0 → (
      Q (some (-5)) h
    )) ∧
    (¬ (x1 < 0) → (
      ((hi h t 1 ≤ x1 → (
        Q (some (-5)) h
      )) ∧
      (¬ (hi h t 1 ≤ x1) → (
        ((200 ≤ x1 → (
          Q (some (-5)) h
        )) ∧
        (¬ (200 ≤ x1) → (
          (0 ≤ x1 ∧ x1 < 200) ∧
          Q (some (hi h (t + 1) x1)) h
        )))
      )))
    )))) :
  AM d m_X5_nameAt [(.inr (some t)), (.inl x1)] h Q := by
  refine am_body mo_X5_nameAt (Nat.le_of_ble_eq_true rfl) ?_
  show AW m_X5_nameAt d none Q 0 [some (.inr (some t)), some (.inl x1)] [] h (0, 0)
  obtain ⟨kt, rt_row, kt_row⟩ := id hL
  refine aw_iload_n (pc := 0) dX5_nameAt_0 rfl ?_
  refine aw_if_lt (pc := 1) (tgt := 28) dX5_nameAt_1 (by decide) (fun c1 => ?_) (fun c1 => ?_)
  · replace g := g.1 c1
    refine aw_bipush (pc := 28) dX5_nameAt_28 ?_
    exact ax_ireturn (pc := 30) dX5_nameAt_30 rfl g (by decide) (by decide)
  · replace g := g.2 c1
    refine aw_iload_n (pc := 4) dX5_nameAt_4 rfl ?_
    refine aw_aload_n (pc := 5) dX5_nameAt_5 rfl ?_
    refine ax_geti (pc := 6) (v := hi h t 1) dX5_nameAt_6 fl_X5_15 (by decide) rfl kt rfl ?_
    refine aw_icmp_ge (pc := 9) (tgt := 28) dX5_nameAt_9 (by decide) (fun c2 => ?_) (fun c2 => ?_)
    · replace g := g.1 c2
      refine aw_bipush (pc := 28) dX5_nameAt_28 ?_
      exact ax_ireturn (pc := 30) dX5_nameAt_30 rfl g (by decide) (by decide)
    · replace g := g.2 c2
      refine aw_iload_n (pc := 12) dX5_nameAt_12 rfl ?_
      refine aw_sipush (pc := 13) dX5_nameAt_13 ?_
      refine aw_icmp_ge (pc := 16) (tgt := 28) dX5_nameAt_16 (by decide) (fun c3 => ?_) (fun c3 => ?_)
      · replace g := g.1 c3
        refine aw_bipush (pc := 28) dX5_nameAt_28 ?_
        exact ax_ireturn (pc := 30) dX5_nameAt_30 rfl g (by decide) (by decide)
      · replace g := g.2 c3
        refine aw_aload_n (pc := 19) dX5_nameAt_19 rfl ?_
        refine aw_getr (pc := 20) (r := some (t + 1)) dX5_nameAt_20 fl_X5_9 (by decide) rfl kt rt_row ?_
        refine aw_iload_n (pc := 23) dX5_nameAt_23 rfl ?_
        obtain ⟨s4, g⟩ := g
        refine ax_iaload (pc := 24) (n := 200) (v := hi h (t + 1) x1) dX5_nameAt_24 kt_row s4 rfl ?_
        refine aw_goto (pc := 25) (tgt := 30) dX5_nameAt_25 (by decide) ?_
        exact ax_ireturn (pc := 30) dX5_nameAt_30 rfl g (by decide) (by decide)
set_option maxRecDepth 100000 in
set_option maxHeartbeats 4000000 in
theorem vc_X5_add {d : Nat} {Q : Option Int → AH → Prop} {h : AH} {t : Nat} {x1 : Int} (hd : 1 ≤ d) (hL : QT h t)
  (g :
    ((hi h t 1 < 200 → (
      ((hi h t 1 < 0 → (
        Q none h
      )) ∧
      (¬ (hi h t 1 < 0) → (
        (0 ≤ hi h t 1 ∧ hi h t 1 < 200) ∧
        (rg ((hi h t 1) + 1)) ∧
        Q none (up (up h (t + 1) (hi h t 1) x1) t 1 ((hi h t 1) + 1))
      )))
    )) ∧
    (¬ (hi h t 1 < 200) → (
      Q none (up (up (up (cpy h (t + 1) (t + 1) 1 0 199) t 1 199) (t + 1) 199 x1) t 1 200)
    )))) :
  AM d m_X5_add [(.inr (some t)), (.inl x1)] h Q := by
  refine am_body mo_X5_add (Nat.le_of_ble_eq_true rfl) ?_
  show AW m_X5_add d none Q 0 [some (.inr (some t)), some (.inl x1)] [] h (0, 0)
  obtain ⟨kt, rt_row, kt_row⟩ := id hL
  refine aw_aload_n (pc := 0) dX5_add_0 rfl ?_
  refine ax_geti (pc := 1) (v := hi h t 1) dX5_add_1 fl_X5_15 (by decide) rfl kt rfl ?_
  refine aw_sipush (pc := 4) dX5_add_4 ?_
  refine aw_icmp_lt (pc := 7) (tgt := 33) dX5_add_7 (by decide) (fun c1 => ?_) (fun c1 => ?_)
  · replace g := g.1 c1
    refine aw_aload_n (pc := 33) dX5_add_33 rfl ?_
    refine ax_geti (pc := 34) (v := hi h t 1) dX5_add_34 fl_X5_15 (by decide) rfl kt rfl ?_
    refine aw_if_lt (pc := 37) (tgt := 60) dX5_add_37 (by decide) (fun c2 => ?_) (fun c2 => ?_)
    · replace g := g.1 c2
      exact aw_return (pc := 60) dX5_add_60 rfl g (by decide) (by decide)
    · replace g := g.2 c2
      refine aw_aload_n (pc := 40) dX5_add_40 rfl ?_
      refine aw_getr (pc := 41) (r := some (t + 1)) dX5_add_41 fl_X5_9 (by decide) rfl kt rt_row ?_
      refine aw_aload_n (pc := 44) dX5_add_44 rfl ?_
      refine ax_geti (pc := 45) (v := hi h t 1) dX5_add_45 fl_X5_15 (by decide) rfl kt rfl ?_
      refine aw_iload_n (pc := 48) dX5_add_48 rfl ?_
      obtain ⟨s3, g⟩ := g
      refine ax_iastore (pc := 49) (n := 200) dX5_add_49 kt_row s3 ?_
      refine aw_aload_n (pc := 50) dX5_add_50 rfl ?_
      refine aw_dup (pc := 51) dX5_add_51 ?_
      refine ax_geti (pc := 52) (v := hi h t 1) dX5_add_52 fl_X5_15 (by decide) rfl kt (by simp [hi_up]) ?_
      refine aw_iconst (pc := 55) dX5_add_55 ?_
      obtain ⟨s4, g⟩ := g
      refine ax_iadd (pc := 56) (v := (hi h t 1) + 1) dX5_add_56 s4 rfl ?_
      refine ax_puti (pc := 57) dX5_add_57 fl_X5_15 (by decide) rfl rfl rfl kt ?_
      exact aw_return (pc := 60) dX5_add_60 rfl g (by decide) (by decide)
  · replace g := g.2 c1
    refine aw_aload_n (pc := 10) dX5_add_10 rfl ?_
    refine aw_getr (pc := 11) (r := some (t + 1)) dX5_add_11 fl_X5_9 (by decide) rfl kt rt_row ?_
    refine aw_iconst (pc := 14) dX5_add_14 ?_
    refine aw_aload_n (pc := 15) dX5_add_15 rfl ?_
    refine aw_getr (pc := 16) (r := some (t + 1)) dX5_add_16 fl_X5_9 (by decide) rfl kt rt_row ?_
    refine aw_iconst (pc := 19) dX5_add_19 ?_
    refine aw_sipush (pc := 20) dX5_add_20 ?_
    refine aw_copy (pc := 23) (n0 := 200) (n1 := 200) dX5_add_23 ml_X5_19 nt_copy sm_copy ii_System kt_row kt_row (by decide) (by decide) (by decide) (by decide) (by decide) hd (Nat.le_of_ble_eq_true rfl) ?_
    refine aw_aload_n (pc := 26) dX5_add_26 rfl ?_
    refine aw_sipush (pc := 27) dX5_add_27 ?_
    refine ax_puti (pc := 30) dX5_add_30 fl_X5_15 (by decide) rfl rfl rfl kt ?_
    refine aw_aload_n (pc := 33) dX5_add_33 rfl ?_
    refine ax_geti (pc := 34) (v := 199) dX5_add_34 fl_X5_15 (by decide) rfl kt (by simp [hi_up]) ?_
    refine aw_if_lt (pc := 37) (tgt := 60) dX5_add_37 (by decide) (fun c5 => False.elim (by omega)) (fun c5 => ?_)
    refine aw_aload_n (pc := 40) dX5_add_40 rfl ?_
    refine aw_getr (pc := 41) (r := some (t + 1)) dX5_add_41 fl_X5_9 (by decide) rfl kt rt_row ?_
    refine aw_aload_n (pc := 44) dX5_add_44 rfl ?_
    refine ax_geti (pc := 45) (v := 199) dX5_add_45 fl_X5_15 (by decide) rfl kt (by simp [hi_up]) ?_
    refine aw_iload_n (pc := 48) dX5_add_48 rfl ?_
    refine ax_iastore (pc := 49) (n := 200) dX5_add_49 kt_row (by decide) ?_
    refine aw_aload_n (pc := 50) dX5_add_50 rfl ?_
    refine aw_dup (pc := 51) dX5_add_51 ?_
    refine ax_geti (pc := 52) (v := 199) dX5_add_52 fl_X5_15 (by decide) rfl kt (by simp [hi_up]) ?_
    refine aw_iconst (pc := 55) dX5_add_55 ?_
    refine ax_iadd (pc := 56) (v := 200) dX5_add_56 (by decide) (by decide) ?_
    refine ax_puti (pc := 57) dX5_add_57 fl_X5_15 (by decide) rfl rfl rfl kt ?_
    exact aw_return (pc := 60) dX5_add_60 rfl g (by decide) (by decide)
set_option maxRecDepth 100000 in
set_option maxHeartbeats 4000000 in
theorem vc_X5_empty {d : Nat} {Q : Option Int → AH → Prop} {h : AH} {t : Nat} (hL : QT h t)
  (g :
    Q none (up h t 1 0)) :
  AM d m_X5_empty [(.inr (some t))] h Q := by
  refine am_body mo_X5_empty (Nat.le_of_ble_eq_true rfl) ?_
  show AW m_X5_empty d none Q 0 [some (.inr (some t))] [] h (0, 0)
  obtain ⟨kt, rt_row, kt_row⟩ := id hL
  refine aw_aload_n (pc := 0) dX5_empty_0 rfl ?_
  refine aw_iconst (pc := 1) dX5_empty_1 ?_
  refine ax_puti (pc := 2) dX5_empty_2 fl_X5_15 (by decide) rfl rfl rfl kt ?_
  exact aw_return (pc := 5) dX5_empty_5 rfl g (by decide) (by decide)
end
