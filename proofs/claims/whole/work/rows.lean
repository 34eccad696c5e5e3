section
-- ===== PART A: goes FIRST, ahead of the names: the tables' words, and 'selects' of the private methods out of them =====
/-- a private method of a class that the tables say can be made, by its rows of tables_1 -/
def lw_okq (q : MethodName × Nat) : Prop := (q.1.cls ≠ "java/lang/invoke/MethodHandle" ∧ q.1.cls ≠ "java/lang/invoke/VarHandle") ∧ Cond.instantiable q.1.cls q.2 ∈ tables_1 ∧ Cond.privateMethod q.1 ∈ tables_1 ∧ Cond.instanceMethod q.1 ∈ tables_1
theorem lw_p0 : lw_okq (⟨"PocketCards$Pocket", "moveCard", "(II)V"⟩, 7) := ⟨⟨by decide +kernel, by decide +kernel⟩, List.mem_of_getElem? (i := 26) (by decide +kernel), List.mem_of_getElem? (i := 247) (by decide +kernel), List.mem_of_getElem? (i := 248) (by decide +kernel)⟩
theorem lw_p1 : lw_okq (⟨"PocketCards", "recorded", "(I)I"⟩, 7) := ⟨⟨by decide +kernel, by decide +kernel⟩, List.mem_of_getElem? (i := 12) (by decide +kernel), List.mem_of_getElem? (i := 251) (by decide +kernel), List.mem_of_getElem? (i := 252) (by decide +kernel)⟩
theorem lw_p2 : lw_okq (⟨"PocketCards$History", "dropOldest", "()V"⟩, 2) := ⟨⟨by decide +kernel, by decide +kernel⟩, List.mem_of_getElem? (i := 140) (by decide +kernel), List.mem_of_getElem? (i := 259) (by decide +kernel), List.mem_of_getElem? (i := 260) (by decide +kernel)⟩
theorem lw_p3 : lw_okq (⟨"PocketCards$Pocket", "isCard", "(I)Z"⟩, 7) := ⟨⟨by decide +kernel, by decide +kernel⟩, List.mem_of_getElem? (i := 26) (by decide +kernel), List.mem_of_getElem? (i := 276) (by decide +kernel), List.mem_of_getElem? (i := 277) (by decide +kernel)⟩
theorem lw_p4 : lw_okq (⟨"PocketCards$State", "hear", "()I"⟩, 7) := ⟨⟨by decide +kernel, by decide +kernel⟩, List.mem_of_getElem? (i := 20) (by decide +kernel), List.mem_of_getElem? (i := 382) (by decide +kernel), List.mem_of_getElem? (i := 383) (by decide +kernel)⟩
theorem lw_p5 : lw_okq (⟨"PocketCards$State", "drawSlots", "(I)V"⟩, 7) := ⟨⟨by decide +kernel, by decide +kernel⟩, List.mem_of_getElem? (i := 20) (by decide +kernel), List.mem_of_getElem? (i := 441) (by decide +kernel), List.mem_of_getElem? (i := 442) (by decide +kernel)⟩
theorem lw_p6 : lw_okq (⟨"PocketCards$State", "draw", "(I)I"⟩, 7) := ⟨⟨by decide +kernel, by decide +kernel⟩, List.mem_of_getElem? (i := 20) (by decide +kernel), List.mem_of_getElem? (i := 445) (by decide +kernel), List.mem_of_getElem? (i := 446) (by decide +kernel)⟩
theorem lw_p7 : lw_okq (⟨"PocketCards$State", "nextSize", "(III)I"⟩, 7) := ⟨⟨by decide +kernel, by decide +kernel⟩, List.mem_of_getElem? (i := 20) (by decide +kernel), List.mem_of_getElem? (i := 469) (by decide +kernel), List.mem_of_getElem? (i := 470) (by decide +kernel)⟩
theorem lw_p8 : lw_okq (⟨"PocketCards$Text", "readOrder", "()Z"⟩, 7) := ⟨⟨by decide +kernel, by decide +kernel⟩, List.mem_of_getElem? (i := 156) (by decide +kernel), List.mem_of_getElem? (i := 500) (by decide +kernel), List.mem_of_getElem? (i := 501) (by decide +kernel)⟩
theorem lw_p9 : lw_okq (⟨"PocketCards$Text", "characterAt", "(I)C"⟩, 7) := ⟨⟨by decide +kernel, by decide +kernel⟩, List.mem_of_getElem? (i := 156) (by decide +kernel), List.mem_of_getElem? (i := 504) (by decide +kernel), List.mem_of_getElem? (i := 505) (by decide +kernel)⟩
theorem lw_p10 : lw_okq (⟨"PocketCards$Text", "readNumber", "(II)Z"⟩, 7) := ⟨⟨by decide +kernel, by decide +kernel⟩, List.mem_of_getElem? (i := 156) (by decide +kernel), List.mem_of_getElem? (i := 508) (by decide +kernel), List.mem_of_getElem? (i := 509) (by decide +kernel)⟩
theorem lw_p11 : lw_okq (⟨"PocketCards$Text", "digitAt", "(I)I"⟩, 7) := ⟨⟨by decide +kernel, by decide +kernel⟩, List.mem_of_getElem? (i := 156) (by decide +kernel), List.mem_of_getElem? (i := 512) (by decide +kernel), List.mem_of_getElem? (i := 513) (by decide +kernel)⟩
theorem lw_p12 : lw_okq (⟨"PocketCardsModel", "record", "()V"⟩, 20) := ⟨⟨by decide +kernel, by decide +kernel⟩, List.mem_of_getElem? (i := 632) (by decide +kernel), List.mem_of_getElem? (i := 714) (by decide +kernel), List.mem_of_getElem? (i := 715) (by decide +kernel)⟩
theorem lw_p13 : lw_okq (⟨"PocketCardsModel", "recordRow", "([I)V"⟩, 20) := ⟨⟨by decide +kernel, by decide +kernel⟩, List.mem_of_getElem? (i := 632) (by decide +kernel), List.mem_of_getElem? (i := 718) (by decide +kernel), List.mem_of_getElem? (i := 719) (by decide +kernel)⟩
theorem lw_p14 : lw_okq (⟨"PocketCardsModel", "whyNotPut", "(I)I"⟩, 20) := ⟨⟨by decide +kernel, by decide +kernel⟩, List.mem_of_getElem? (i := 632) (by decide +kernel), List.mem_of_getElem? (i := 726) (by decide +kernel), List.mem_of_getElem? (i := 727) (by decide +kernel)⟩
theorem lw_p15 : lw_okq (⟨"PocketCardsModel", "cardWith", "(I)I"⟩, 20) := ⟨⟨by decide +kernel, by decide +kernel⟩, List.mem_of_getElem? (i := 632) (by decide +kernel), List.mem_of_getElem? (i := 733) (by decide +kernel), List.mem_of_getElem? (i := 734) (by decide +kernel)⟩
def lw_privs_1 : List (MethodName × Nat) := [(⟨"PocketCards$Pocket", "moveCard", "(II)V"⟩, 7), (⟨"PocketCards", "recorded", "(I)I"⟩, 7), (⟨"PocketCards$History", "dropOldest", "()V"⟩, 2), (⟨"PocketCards$Pocket", "isCard", "(I)Z"⟩, 7), (⟨"PocketCards$State", "hear", "()I"⟩, 7), (⟨"PocketCards$State", "drawSlots", "(I)V"⟩, 7), (⟨"PocketCards$State", "draw", "(I)I"⟩, 7), (⟨"PocketCards$State", "nextSize", "(III)I"⟩, 7), (⟨"PocketCards$Text", "readOrder", "()Z"⟩, 7), (⟨"PocketCards$Text", "characterAt", "(I)C"⟩, 7), (⟨"PocketCards$Text", "readNumber", "(II)Z"⟩, 7), (⟨"PocketCards$Text", "digitAt", "(I)I"⟩, 7), (⟨"PocketCardsModel", "record", "()V"⟩, 20), (⟨"PocketCardsModel", "recordRow", "([I)V"⟩, 20), (⟨"PocketCardsModel", "whyNotPut", "(I)I"⟩, 20), (⟨"PocketCardsModel", "cardWith", "(I)I"⟩, 20)]
theorem lw_r1 : ∀ q ∈ lw_privs_1, lw_okq q := List.forall_mem_cons.mpr ⟨lw_p0, List.forall_mem_cons.mpr ⟨lw_p1, List.forall_mem_cons.mpr ⟨lw_p2, List.forall_mem_cons.mpr ⟨lw_p3, List.forall_mem_cons.mpr ⟨lw_p4, List.forall_mem_cons.mpr ⟨lw_p5, List.forall_mem_cons.mpr ⟨lw_p6, List.forall_mem_cons.mpr ⟨lw_p7, List.forall_mem_cons.mpr ⟨lw_p8, List.forall_mem_cons.mpr ⟨lw_p9, List.forall_mem_cons.mpr ⟨lw_p10, List.forall_mem_cons.mpr ⟨lw_p11, List.forall_mem_cons.mpr ⟨lw_p12, List.forall_mem_cons.mpr ⟨lw_p13, List.forall_mem_cons.mpr ⟨lw_p14, List.forall_mem_cons.mpr ⟨lw_p15, fun _ h => absurd h List.not_mem_nil⟩⟩⟩⟩⟩⟩⟩⟩⟩⟩⟩⟩⟩⟩⟩⟩
theorem lw_p16 : lw_okq (⟨"PocketCardsModel", "of", "(II)I"⟩, 20) := ⟨⟨by decide +kernel, by decide +kernel⟩, List.mem_of_getElem? (i := 632) (by decide +kernel), List.mem_of_getElem? (i := 737) (by decide +kernel), List.mem_of_getElem? (i := 738) (by decide +kernel)⟩
theorem lw_p17 : lw_okq (⟨"PocketCardsModel", "putNow", "(I)V"⟩, 20) := ⟨⟨by decide +kernel, by decide +kernel⟩, List.mem_of_getElem? (i := 632) (by decide +kernel), List.mem_of_getElem? (i := 741) (by decide +kernel), List.mem_of_getElem? (i := 742) (by decide +kernel)⟩
theorem lw_p18 : lw_okq (⟨"PocketCardsModel", "lay", "(III)V"⟩, 20) := ⟨⟨by decide +kernel, by decide +kernel⟩, List.mem_of_getElem? (i := 632) (by decide +kernel), List.mem_of_getElem? (i := 745) (by decide +kernel), List.mem_of_getElem? (i := 746) (by decide +kernel)⟩
theorem lw_p19 : lw_okq (⟨"PocketCardsModel", "takeNow", "(I)V"⟩, 20) := ⟨⟨by decide +kernel, by decide +kernel⟩, List.mem_of_getElem? (i := 632) (by decide +kernel), List.mem_of_getElem? (i := 753) (by decide +kernel), List.mem_of_getElem? (i := 754) (by decide +kernel)⟩
theorem lw_p20 : lw_okq (⟨"PocketCardsModel", "awake", "()I"⟩, 20) := ⟨⟨by decide +kernel, by decide +kernel⟩, List.mem_of_getElem? (i := 632) (by decide +kernel), List.mem_of_getElem? (i := 761) (by decide +kernel), List.mem_of_getElem? (i := 762) (by decide +kernel)⟩
theorem lw_p21 : lw_okq (⟨"PocketCardsModel", "wakeNow", "()V"⟩, 20) := ⟨⟨by decide +kernel, by decide +kernel⟩, List.mem_of_getElem? (i := 632) (by decide +kernel), List.mem_of_getElem? (i := 769) (by decide +kernel), List.mem_of_getElem? (i := 770) (by decide +kernel)⟩
theorem lw_p22 : lw_okq (⟨"PocketCardsModel", "askNow", "(II)I"⟩, 20) := ⟨⟨by decide +kernel, by decide +kernel⟩, List.mem_of_getElem? (i := 632) (by decide +kernel), List.mem_of_getElem? (i := 796) (by decide +kernel), List.mem_of_getElem? (i := 797) (by decide +kernel)⟩
theorem lw_p23 : lw_okq (⟨"PocketCardsModel", "noAnswer", "()V"⟩, 20) := ⟨⟨by decide +kernel, by decide +kernel⟩, List.mem_of_getElem? (i := 632) (by decide +kernel), List.mem_of_getElem? (i := 800) (by decide +kernel), List.mem_of_getElem? (i := 801) (by decide +kernel)⟩
theorem lw_p24 : lw_okq (⟨"PocketCardsModel", "answers", "(I)V"⟩, 20) := ⟨⟨by decide +kernel, by decide +kernel⟩, List.mem_of_getElem? (i := 632) (by decide +kernel), List.mem_of_getElem? (i := 807) (by decide +kernel), List.mem_of_getElem? (i := 808) (by decide +kernel)⟩
theorem lw_p25 : lw_okq (⟨"PocketCardsModel", "answer", "()I"⟩, 20) := ⟨⟨by decide +kernel, by decide +kernel⟩, List.mem_of_getElem? (i := 632) (by decide +kernel), List.mem_of_getElem? (i := 811) (by decide +kernel), List.mem_of_getElem? (i := 812) (by decide +kernel)⟩
theorem lw_p26 : lw_okq (⟨"PocketCardsModel", "clashBit", "()I"⟩, 20) := ⟨⟨by decide +kernel, by decide +kernel⟩, List.mem_of_getElem? (i := 632) (by decide +kernel), List.mem_of_getElem? (i := 815) (by decide +kernel), List.mem_of_getElem? (i := 816) (by decide +kernel)⟩
theorem lw_p27 : lw_okq (⟨"PocketCardsModel", "tell", "(I)V"⟩, 20) := ⟨⟨by decide +kernel, by decide +kernel⟩, List.mem_of_getElem? (i := 632) (by decide +kernel), List.mem_of_getElem? (i := 819) (by decide +kernel), List.mem_of_getElem? (i := 820) (by decide +kernel)⟩
theorem lw_p28 : lw_okq (⟨"PocketCardsModel", "letGo", "()V"⟩, 20) := ⟨⟨by decide +kernel, by decide +kernel⟩, List.mem_of_getElem? (i := 632) (by decide +kernel), List.mem_of_getElem? (i := 823) (by decide +kernel), List.mem_of_getElem? (i := 824) (by decide +kernel)⟩
theorem lw_p29 : lw_okq (⟨"PocketCardsModel", "walkNow", "(Z)V"⟩, 20) := ⟨⟨by decide +kernel, by decide +kernel⟩, List.mem_of_getElem? (i := 632) (by decide +kernel), List.mem_of_getElem? (i := 831) (by decide +kernel), List.mem_of_getElem? (i := 832) (by decide +kernel)⟩
theorem lw_p30 : lw_okq (⟨"PocketCardsModel", "frameNow", "(I)V"⟩, 20) := ⟨⟨by decide +kernel, by decide +kernel⟩, List.mem_of_getElem? (i := 632) (by decide +kernel), List.mem_of_getElem? (i := 842) (by decide +kernel), List.mem_of_getElem? (i := 843) (by decide +kernel)⟩
theorem lw_p31 : lw_okq (⟨"PocketCardsModel", "draw", "(I)I"⟩, 20) := ⟨⟨by decide +kernel, by decide +kernel⟩, List.mem_of_getElem? (i := 632) (by decide +kernel), List.mem_of_getElem? (i := 846) (by decide +kernel), List.mem_of_getElem? (i := 847) (by decide +kernel)⟩
def lw_privs_2 : List (MethodName × Nat) := [(⟨"PocketCardsModel", "of", "(II)I"⟩, 20), (⟨"PocketCardsModel", "putNow", "(I)V"⟩, 20), (⟨"PocketCardsModel", "lay", "(III)V"⟩, 20), (⟨"PocketCardsModel", "takeNow", "(I)V"⟩, 20), (⟨"PocketCardsModel", "awake", "()I"⟩, 20), (⟨"PocketCardsModel", "wakeNow", "()V"⟩, 20), (⟨"PocketCardsModel", "askNow", "(II)I"⟩, 20), (⟨"PocketCardsModel", "noAnswer", "()V"⟩, 20), (⟨"PocketCardsModel", "answers", "(I)V"⟩, 20), (⟨"PocketCardsModel", "answer", "()I"⟩, 20), (⟨"PocketCardsModel", "clashBit", "()I"⟩, 20), (⟨"PocketCardsModel", "tell", "(I)V"⟩, 20), (⟨"PocketCardsModel", "letGo", "()V"⟩, 20), (⟨"PocketCardsModel", "walkNow", "(Z)V"⟩, 20), (⟨"PocketCardsModel", "frameNow", "(I)V"⟩, 20), (⟨"PocketCardsModel", "draw", "(I)I"⟩, 20)]
theorem lw_r2 : ∀ q ∈ lw_privs_2, lw_okq q := List.forall_mem_cons.mpr ⟨lw_p16, List.forall_mem_cons.mpr ⟨lw_p17, List.forall_mem_cons.mpr ⟨lw_p18, List.forall_mem_cons.mpr ⟨lw_p19, List.forall_mem_cons.mpr ⟨lw_p20, List.forall_mem_cons.mpr ⟨lw_p21, List.forall_mem_cons.mpr ⟨lw_p22, List.forall_mem_cons.mpr ⟨lw_p23, List.forall_mem_cons.mpr ⟨lw_p24, List.forall_mem_cons.mpr ⟨lw_p25, List.forall_mem_cons.mpr ⟨lw_p26, List.forall_mem_cons.mpr ⟨lw_p27, List.forall_mem_cons.mpr ⟨lw_p28, List.forall_mem_cons.mpr ⟨lw_p29, List.forall_mem_cons.mpr ⟨lw_p30, List.forall_mem_cons.mpr ⟨lw_p31, fun _ h => absurd h List.not_mem_nil⟩⟩⟩⟩⟩⟩⟩⟩⟩⟩⟩⟩⟩⟩⟩⟩
theorem lw_p32 : lw_okq (⟨"PocketCardsModel", "roundsNow", "(I)I"⟩, 20) := ⟨⟨by decide +kernel, by decide +kernel⟩, List.mem_of_getElem? (i := 632) (by decide +kernel), List.mem_of_getElem? (i := 858) (by decide +kernel), List.mem_of_getElem? (i := 859) (by decide +kernel)⟩
theorem lw_p33 : lw_okq (⟨"PocketCardsModel", "nextSize", "(III)I"⟩, 20) := ⟨⟨by decide +kernel, by decide +kernel⟩, List.mem_of_getElem? (i := 632) (by decide +kernel), List.mem_of_getElem? (i := 862) (by decide +kernel), List.mem_of_getElem? (i := 863) (by decide +kernel)⟩
theorem lw_p34 : lw_okq (⟨"PocketCardsModel", "readText", "()Z"⟩, 20) := ⟨⟨by decide +kernel, by decide +kernel⟩, List.mem_of_getElem? (i := 632) (by decide +kernel), List.mem_of_getElem? (i := 878) (by decide +kernel), List.mem_of_getElem? (i := 879) (by decide +kernel)⟩
theorem lw_p35 : lw_okq (⟨"PocketCardsModel", "readOrder", "()Z"⟩, 20) := ⟨⟨by decide +kernel, by decide +kernel⟩, List.mem_of_getElem? (i := 632) (by decide +kernel), List.mem_of_getElem? (i := 882) (by decide +kernel), List.mem_of_getElem? (i := 883) (by decide +kernel)⟩
theorem lw_p36 : lw_okq (⟨"PocketCardsModel", "number", "(II)I"⟩, 20) := ⟨⟨by decide +kernel, by decide +kernel⟩, List.mem_of_getElem? (i := 632) (by decide +kernel), List.mem_of_getElem? (i := 886) (by decide +kernel), List.mem_of_getElem? (i := 887) (by decide +kernel)⟩
theorem lw_p37 : lw_okq (⟨"PocketCardsModel", "sees", "(II)Z"⟩, 20) := ⟨⟨by decide +kernel, by decide +kernel⟩, List.mem_of_getElem? (i := 632) (by decide +kernel), List.mem_of_getElem? (i := 890) (by decide +kernel), List.mem_of_getElem? (i := 891) (by decide +kernel)⟩
theorem lw_p38 : lw_okq (⟨"PocketCardsModel", "takes", "(I)Z"⟩, 20) := ⟨⟨by decide +kernel, by decide +kernel⟩, List.mem_of_getElem? (i := 632) (by decide +kernel), List.mem_of_getElem? (i := 894) (by decide +kernel), List.mem_of_getElem? (i := 895) (by decide +kernel)⟩
theorem lw_p39 : lw_okq (⟨"PocketCardsModel", "whyNot", "(II)I"⟩, 20) := ⟨⟨by decide +kernel, by decide +kernel⟩, List.mem_of_getElem? (i := 632) (by decide +kernel), List.mem_of_getElem? (i := 898) (by decide +kernel), List.mem_of_getElem? (i := 899) (by decide +kernel)⟩
theorem lw_p40 : lw_okq (⟨"PocketCardsModel", "carryOut", "(II)V"⟩, 20) := ⟨⟨by decide +kernel, by decide +kernel⟩, List.mem_of_getElem? (i := 632) (by decide +kernel), List.mem_of_getElem? (i := 902) (by decide +kernel), List.mem_of_getElem? (i := 903) (by decide +kernel)⟩
theorem lw_p41 : lw_okq (⟨"PocketCardsModel", "shares", "(I)I"⟩, 20) := ⟨⟨by decide +kernel, by decide +kernel⟩, List.mem_of_getElem? (i := 632) (by decide +kernel), List.mem_of_getElem? (i := 914) (by decide +kernel), List.mem_of_getElem? (i := 915) (by decide +kernel)⟩
theorem lw_p42 : lw_okq (⟨"PocketCardsModel", "leaving", "()I"⟩, 20) := ⟨⟨by decide +kernel, by decide +kernel⟩, List.mem_of_getElem? (i := 632) (by decide +kernel), List.mem_of_getElem? (i := 926) (by decide +kernel), List.mem_of_getElem? (i := 927) (by decide +kernel)⟩
theorem lw_p43 : lw_okq (⟨"PocketCardsModel", "withBeginning", "(II)I"⟩, 20) := ⟨⟨by decide +kernel, by decide +kernel⟩, List.mem_of_getElem? (i := 632) (by decide +kernel), List.mem_of_getElem? (i := 934) (by decide +kernel), List.mem_of_getElem? (i := 935) (by decide +kernel)⟩
def lw_privs_3 : List (MethodName × Nat) := [(⟨"PocketCardsModel", "roundsNow", "(I)I"⟩, 20), (⟨"PocketCardsModel", "nextSize", "(III)I"⟩, 20), (⟨"PocketCardsModel", "readText", "()Z"⟩, 20), (⟨"PocketCardsModel", "readOrder", "()Z"⟩, 20), (⟨"PocketCardsModel", "number", "(II)I"⟩, 20), (⟨"PocketCardsModel", "sees", "(II)Z"⟩, 20), (⟨"PocketCardsModel", "takes", "(I)Z"⟩, 20), (⟨"PocketCardsModel", "whyNot", "(II)I"⟩, 20), (⟨"PocketCardsModel", "carryOut", "(II)V"⟩, 20), (⟨"PocketCardsModel", "shares", "(I)I"⟩, 20), (⟨"PocketCardsModel", "leaving", "()I"⟩, 20), (⟨"PocketCardsModel", "withBeginning", "(II)I"⟩, 20)]
theorem lw_r3 : ∀ q ∈ lw_privs_3, lw_okq q := List.forall_mem_cons.mpr ⟨lw_p32, List.forall_mem_cons.mpr ⟨lw_p33, List.forall_mem_cons.mpr ⟨lw_p34, List.forall_mem_cons.mpr ⟨lw_p35, List.forall_mem_cons.mpr ⟨lw_p36, List.forall_mem_cons.mpr ⟨lw_p37, List.forall_mem_cons.mpr ⟨lw_p38, List.forall_mem_cons.mpr ⟨lw_p39, List.forall_mem_cons.mpr ⟨lw_p40, List.forall_mem_cons.mpr ⟨lw_p41, List.forall_mem_cons.mpr ⟨lw_p42, List.forall_mem_cons.mpr ⟨lw_p43, fun _ h => absurd h List.not_mem_nil⟩⟩⟩⟩⟩⟩⟩⟩⟩⟩⟩⟩
def lw_privs : List (MethodName × Nat) := lw_privs_1 ++ (lw_privs_2 ++ (lw_privs_3))
def lw_tbl : List Cond := k2_sels lw_privs ++ tables_1
theorem lw_privs_ok : ∀ q ∈ lw_privs, lw_okq q := by
  show ∀ q ∈ lw_privs_1 ++ (lw_privs_2 ++ (lw_privs_3)), lw_okq q
  exact List.forall_mem_append.mpr ⟨lw_r1, List.forall_mem_append.mpr ⟨lw_r2, lw_r3⟩⟩
end
section
def RX0 : String := "PocketCards$History"
def TX0 : u_T := fun k => match k with
  | 0 => ("PocketCards$History", "rows", "[LPocketCards$State;", true)
  | _ => ("PocketCards$History", "states", "I", false)
def tyX0 : Nat → FieldType := fun k => match k with
  | 0 => .array (.object "PocketCards$State")
  | _ => .int
abbrev wsX00 : List Cond := u_ws RX0 TX0 2
theorem nmX0 : ∀ a, a < 2 → ∀ b, b < 2 → a ≠ b → (TX0 a).2.1 ≠ (TX0 b).2.1 := by decide +kernel
theorem tyX0_ok : ∀ k, k < 2 → parseFieldDescriptor (TX0 k).2.2.1 = some (tyX0 k) := by decide +kernel
abbrev cX0_init : ByteArray := prog_2_method_1_code
def yX0_init : MethodName := ⟨RX0, "<init>", "()V"⟩
abbrev cX0_states : ByteArray := prog_2_method_2_code
def yX0_states : MethodName := ⟨RX0, "states", "()I"⟩
abbrev cX0_add : ByteArray := prog_2_method_3_code
def yX0_add : MethodName := ⟨RX0, "add", "(LPocketCards$State;)V"⟩
abbrev cX0_dropOldest : ByteArray := prog_2_method_4_code
def yX0_dropOldest : MethodName := ⟨RX0, "dropOldest", "()V"⟩
abbrev cX0_backTo : ByteArray := prog_2_method_5_code
def yX0_backTo : MethodName := ⟨RX0, "backTo", "(LPocketCards$State;)I"⟩
def RX1 : String := "PocketCards$Pocket"
def TX1 : u_T := fun k => match k with
  | 0 => ("PocketCards$Pocket", "names", "[I", true)
  | 1 => ("PocketCards$Pocket", "asksToGo", "[I", true)
  | 2 => ("PocketCards$Pocket", "tellings", "[I", true)
  | 3 => ("PocketCards$Pocket", "slots", "[I", true)
  | 4 => ("PocketCards$Pocket", "awake", "[Z", true)
  | 5 => ("PocketCards$Pocket", "answering", "[Z", true)
  | _ => ("PocketCards$Pocket", "cards", "I", false)
def tyX1 : Nat → FieldType := fun k => match k with
  | 0 => .array .int
  | 1 => .array .int
  | 2 => .array .int
  | 3 => .array .int
  | 4 => .array .boolean
  | 5 => .array .boolean
  | _ => .int
abbrev wsX10 : List Cond := u_ws RX1 TX1 7
theorem nmX1 : ∀ a, a < 7 → ∀ b, b < 7 → a ≠ b → (TX1 a).2.1 ≠ (TX1 b).2.1 := by decide +kernel
theorem tyX1_ok : ∀ k, k < 7 → parseFieldDescriptor (TX1 k).2.2.1 = some (tyX1 k) := by decide +kernel
abbrev cX1_init : ByteArray := prog_3_method_1_code
def yX1_init : MethodName := ⟨RX1, "<init>", "()V"⟩
abbrev cX1_copyFrom : ByteArray := prog_3_method_2_code
def yX1_copyFrom : MethodName := ⟨RX1, "copyFrom", "(LPocketCards$Pocket;)V"⟩
abbrev cX1_cards : ByteArray := prog_3_method_3_code
def yX1_cards : MethodName := ⟨RX1, "cards", "()I"⟩
abbrev cX1_isCard : ByteArray := prog_3_method_4_code
def yX1_isCard : MethodName := ⟨RX1, "isCard", "(I)Z"⟩
abbrev cX1_placeOf : ByteArray := prog_3_method_5_code
def yX1_placeOf : MethodName := ⟨RX1, "placeOf", "(I)I"⟩
abbrev cX1_nameAt : ByteArray := prog_3_method_6_code
def yX1_nameAt : MethodName := ⟨RX1, "nameAt", "(I)I"⟩
abbrev cX1_isAwake : ByteArray := prog_3_method_7_code
def yX1_isAwake : MethodName := ⟨RX1, "isAwake", "(I)Z"⟩
abbrev cX1_asksToGo : ByteArray := prog_3_method_8_code
def yX1_asksToGo : MethodName := ⟨RX1, "asksToGo", "(I)I"⟩
abbrev cX1_tellings : ByteArray := prog_3_method_9_code
def yX1_tellings : MethodName := ⟨RX1, "tellings", "(I)I"⟩
abbrev cX1_sharedBits : ByteArray := prog_3_method_10_code
def yX1_sharedBits : MethodName := ⟨RX1, "sharedBits", "(I)I"⟩
abbrev cX1_awakeCards : ByteArray := prog_3_method_11_code
def yX1_awakeCards : MethodName := ⟨RX1, "awakeCards", "()I"⟩
abbrev cX1_awakeWith : ByteArray := prog_3_method_12_code
def yX1_awakeWith : MethodName := ⟨RX1, "awakeWith", "(II)I"⟩
abbrev cX1_leavingCards : ByteArray := prog_3_method_13_code
def yX1_leavingCards : MethodName := ⟨RX1, "leavingCards", "()I"⟩
abbrev cX1_insert : ByteArray := prog_3_method_14_code
def yX1_insert : MethodName := ⟨RX1, "insert", "(I)V"⟩
abbrev cX1_removeAt : ByteArray := prog_3_method_15_code
def yX1_removeAt : MethodName := ⟨RX1, "removeAt", "(I)V"⟩
abbrev cX1_moveCard : ByteArray := prog_3_method_16_code
def yX1_moveCard : MethodName := ⟨RX1, "moveCard", "(II)V"⟩
abbrev cX1_sleepAt : ByteArray := prog_3_method_17_code
def yX1_sleepAt : MethodName := ⟨RX1, "sleepAt", "(I)V"⟩
abbrev cX1_wakeEach : ByteArray := prog_3_method_18_code
def yX1_wakeEach : MethodName := ⟨RX1, "wakeEach", "()V"⟩
abbrev cX1_leaveAt : ByteArray := prog_3_method_19_code
def yX1_leaveAt : MethodName := ⟨RX1, "leaveAt", "(II)V"⟩
abbrev cX1_tellAt : ByteArray := prog_3_method_20_code
def yX1_tellAt : MethodName := ⟨RX1, "tellAt", "(I)V"⟩
abbrev cX1_slotAt : ByteArray := prog_3_method_21_code
def yX1_slotAt : MethodName := ⟨RX1, "slotAt", "(II)V"⟩
abbrev cX1_letAnswer : ByteArray := prog_3_method_22_code
def yX1_letAnswer : MethodName := ⟨RX1, "letAnswer", "(II)V"⟩
abbrev cX1_letAnswerIn : ByteArray := prog_3_method_23_code
def yX1_letAnswerIn : MethodName := ⟨RX1, "letAnswerIn", "(I)V"⟩
abbrev cX1_firstAnswering : ByteArray := prog_3_method_24_code
def yX1_firstAnswering : MethodName := ⟨RX1, "firstAnswering", "()I"⟩
abbrev cX1_differencesFrom : ByteArray := prog_3_method_25_code
def yX1_differencesFrom : MethodName := ⟨RX1, "differencesFrom", "(I)I"⟩
abbrev cX1_passAsk : ByteArray := prog_3_method_26_code
def yX1_passAsk : MethodName := ⟨RX1, "passAsk", "()I"⟩
def RX2 : String := "PocketCards$State"
def TX2 : u_T := fun k => match k with
  | 0 => ("PocketCards$State", "pocket", "LPocketCards$Pocket;", true)
  | 1 => ("PocketCards$State", "told", "LPocketCards$Told;", true)
  | 2 => ("PocketCards$State", "tally", "LPocketCards$Tally;", true)
  | 3 => ("PocketCards$State", "settings", "[I", true)
  | 4 => ("PocketCards$State", "x", "I", false)
  | 5 => ("PocketCards$State", "longest", "I", false)
  | _ => ("PocketCards$State", "clashName", "I", false)
def tyX2 : Nat → FieldType := fun k => match k with
  | 0 => .object "PocketCards$Pocket"
  | 1 => .object "PocketCards$Told"
  | 2 => .object "PocketCards$Tally"
  | 3 => .array .int
  | 4 => .int
  | 5 => .int
  | _ => .int
abbrev wsX20 : List Cond := u_ws RX2 TX2 7
theorem nmX2 : ∀ a, a < 7 → ∀ b, b < 7 → a ≠ b → (TX2 a).2.1 ≠ (TX2 b).2.1 := by decide +kernel
theorem tyX2_ok : ∀ k, k < 7 → parseFieldDescriptor (TX2 k).2.2.1 = some (tyX2 k) := by decide +kernel
abbrev cX2_init : ByteArray := prog_4_method_1_code
def yX2_init : MethodName := ⟨RX2, "<init>", "()V"⟩
abbrev cX2_copyFrom : ByteArray := prog_4_method_2_code
def yX2_copyFrom : MethodName := ⟨RX2, "copyFrom", "(LPocketCards$State;)V"⟩
abbrev cX2_putCard : ByteArray := prog_4_method_3_code
def yX2_putCard : MethodName := ⟨RX2, "putCard", "(I)I"⟩
abbrev cX2_takeCard : ByteArray := prog_4_method_4_code
def yX2_takeCard : MethodName := ⟨RX2, "takeCard", "(I)I"⟩
abbrev cX2_sleepCard : ByteArray := prog_4_method_5_code
def yX2_sleepCard : MethodName := ⟨RX2, "sleepCard", "(I)I"⟩
abbrev cX2_wakeCards : ByteArray := prog_4_method_6_code
def yX2_wakeCards : MethodName := ⟨RX2, "wakeCards", "()I"⟩
abbrev cX2_leaveBehind : ByteArray := prog_4_method_7_code
def yX2_leaveBehind : MethodName := ⟨RX2, "leaveBehind", "(II)I"⟩
abbrev cX2_setTo : ByteArray := prog_4_method_8_code
def yX2_setTo : MethodName := ⟨RX2, "setTo", "(II)I"⟩
abbrev cX2_valueOf : ByteArray := prog_4_method_9_code
def yX2_valueOf : MethodName := ⟨RX2, "valueOf", "(I)I"⟩
abbrev cX2_shuffleTo : ByteArray := prog_4_method_10_code
def yX2_shuffleTo : MethodName := ⟨RX2, "shuffleTo", "(I)I"⟩
abbrev cX2_forgetTold : ByteArray := prog_4_method_11_code
def yX2_forgetTold : MethodName := ⟨RX2, "forgetTold", "()I"⟩
abbrev cX2_askFor : ByteArray := prog_4_method_12_code
def yX2_askFor : MethodName := ⟨RX2, "askFor", "(II)I"⟩
abbrev cX2_hear : ByteArray := prog_4_method_13_code
def yX2_hear : MethodName := ⟨RX2, "hear", "()I"⟩
abbrev cX2_makeWalk : ByteArray := prog_4_method_14_code
def yX2_makeWalk : MethodName := ⟨RX2, "makeWalk", "(Z)I"⟩
abbrev cX2_walkFrom : ByteArray := prog_4_method_15_code
def yX2_walkFrom : MethodName := ⟨RX2, "walkFrom", "(LPocketCards$State;IIZ)V"⟩
abbrev cX2_makeFrame : ByteArray := prog_4_method_16_code
def yX2_makeFrame : MethodName := ⟨RX2, "makeFrame", "(I)I"⟩
abbrev cX2_drawSlots : ByteArray := prog_4_method_17_code
def yX2_drawSlots : MethodName := ⟨RX2, "drawSlots", "(I)V"⟩
abbrev cX2_draw : ByteArray := prog_4_method_18_code
def yX2_draw : MethodName := ⟨RX2, "draw", "(I)I"⟩
abbrev cX2_makeRounds : ByteArray := prog_4_method_19_code
def yX2_makeRounds : MethodName := ⟨RX2, "makeRounds", "(I)I"⟩
abbrev cX2_nextSize : ByteArray := prog_4_method_20_code
def yX2_nextSize : MethodName := ⟨RX2, "nextSize", "(III)I"⟩
abbrev cX2_carryOut : ByteArray := prog_4_method_21_code
def yX2_carryOut : MethodName := ⟨RX2, "carryOut", "(CI)I"⟩
def RX3 : String := "PocketCards$Tally"
def TX3 : u_T := fun k => match k with
  | 0 => ("PocketCards$Tally", "asks", "I", false)
  | 1 => ("PocketCards$Tally", "slots", "I", false)
  | 2 => ("PocketCards$Tally", "silences", "I", false)
  | 3 => ("PocketCards$Tally", "names", "I", false)
  | 4 => ("PocketCards$Tally", "clashes", "I", false)
  | 5 => ("PocketCards$Tally", "time", "I", false)
  | 6 => ("PocketCards$Tally", "frames", "I", false)
  | _ => ("PocketCards$Tally", "left", "I", false)
def tyX3 : Nat → FieldType := fun k => match k with
  | 0 => .int
  | 1 => .int
  | 2 => .int
  | 3 => .int
  | 4 => .int
  | 5 => .int
  | 6 => .int
  | _ => .int
abbrev wsX30 : List Cond := u_ws RX3 TX3 8
theorem nmX3 : ∀ a, a < 8 → ∀ b, b < 8 → a ≠ b → (TX3 a).2.1 ≠ (TX3 b).2.1 := by decide +kernel
theorem tyX3_ok : ∀ k, k < 8 → parseFieldDescriptor (TX3 k).2.2.1 = some (tyX3 k) := by decide +kernel
abbrev cX3_init : ByteArray := prog_5_method_1_code
def yX3_init : MethodName := ⟨RX3, "<init>", "()V"⟩
abbrev cX3_copyFrom : ByteArray := prog_5_method_2_code
def yX3_copyFrom : MethodName := ⟨RX3, "copyFrom", "(LPocketCards$Tally;)V"⟩
abbrev cX3_numberOf : ByteArray := prog_5_method_3_code
def yX3_numberOf : MethodName := ⟨RX3, "numberOf", "(I)I"⟩
def RX4 : String := "PocketCards$Text"
def TX4 : u_T := fun k => match k with
  | 0 => ("PocketCards$Text", "characters", "[C", true)
  | 1 => ("PocketCards$Text", "length", "I", false)
  | 2 => ("PocketCards$Text", "kinds", "[C", true)
  | 3 => ("PocketCards$Text", "numbers", "[I", true)
  | 4 => ("PocketCards$Text", "orders", "I", false)
  | 5 => ("PocketCards$Text", "place", "I", false)
  | _ => ("PocketCards$Text", "number", "I", false)
def tyX4 : Nat → FieldType := fun k => match k with
  | 0 => .array .char
  | 1 => .int
  | 2 => .array .char
  | 3 => .array .int
  | 4 => .int
  | 5 => .int
  | _ => .int
abbrev wsX40 : List Cond := u_ws RX4 TX4 7
theorem nmX4 : ∀ a, a < 7 → ∀ b, b < 7 → a ≠ b → (TX4 a).2.1 ≠ (TX4 b).2.1 := by decide +kernel
theorem tyX4_ok : ∀ k, k < 7 → parseFieldDescriptor (TX4 k).2.2.1 = some (tyX4 k) := by decide +kernel
abbrev cX4_init : ByteArray := prog_6_method_1_code
def yX4_init : MethodName := ⟨RX4, "<init>", "()V"⟩
abbrev cX4_length : ByteArray := prog_6_method_2_code
def yX4_length : MethodName := ⟨RX4, "length", "()I"⟩
abbrev cX4_append : ByteArray := prog_6_method_3_code
def yX4_append : MethodName := ⟨RX4, "append", "(C)I"⟩
abbrev cX4_empty : ByteArray := prog_6_method_4_code
def yX4_empty : MethodName := ⟨RX4, "empty", "()I"⟩
abbrev cX4_orders : ByteArray := prog_6_method_5_code
def yX4_orders : MethodName := ⟨RX4, "orders", "()I"⟩
abbrev cX4_kindAt : ByteArray := prog_6_method_6_code
def yX4_kindAt : MethodName := ⟨RX4, "kindAt", "(I)C"⟩
abbrev cX4_numberAt : ByteArray := prog_6_method_7_code
def yX4_numberAt : MethodName := ⟨RX4, "numberAt", "(I)I"⟩
abbrev cX4_readOrders : ByteArray := prog_6_method_8_code
def yX4_readOrders : MethodName := ⟨RX4, "readOrders", "()I"⟩
abbrev cX4_readOrder : ByteArray := prog_6_method_9_code
def yX4_readOrder : MethodName := ⟨RX4, "readOrder", "()Z"⟩
abbrev cX4_readNumber : ByteArray := prog_6_method_10_code
def yX4_readNumber : MethodName := ⟨RX4, "readNumber", "(II)Z"⟩
abbrev cX4_digitAt : ByteArray := prog_6_method_11_code
def yX4_digitAt : MethodName := ⟨RX4, "digitAt", "(I)I"⟩
abbrev cX4_characterAt : ByteArray := prog_6_method_12_code
def yX4_characterAt : MethodName := ⟨RX4, "characterAt", "(I)C"⟩
def RX5 : String := "PocketCards$Told"
def TX5 : u_T := fun k => match k with
  | 0 => ("PocketCards$Told", "row", "[I", true)
  | _ => ("PocketCards$Told", "names", "I", false)
def tyX5 : Nat → FieldType := fun k => match k with
  | 0 => .array .int
  | _ => .int
abbrev wsX50 : List Cond := u_ws RX5 TX5 2
theorem nmX5 : ∀ a, a < 2 → ∀ b, b < 2 → a ≠ b → (TX5 a).2.1 ≠ (TX5 b).2.1 := by decide +kernel
theorem tyX5_ok : ∀ k, k < 2 → parseFieldDescriptor (TX5 k).2.2.1 = some (tyX5 k) := by decide +kernel
abbrev cX5_init : ByteArray := prog_7_method_1_code
def yX5_init : MethodName := ⟨RX5, "<init>", "()V"⟩
abbrev cX5_copyFrom : ByteArray := prog_7_method_2_code
def yX5_copyFrom : MethodName := ⟨RX5, "copyFrom", "(LPocketCards$Told;)V"⟩
abbrev cX5_names : ByteArray := prog_7_method_3_code
def yX5_names : MethodName := ⟨RX5, "names", "()I"⟩
abbrev cX5_nameAt : ByteArray := prog_7_method_4_code
def yX5_nameAt : MethodName := ⟨RX5, "nameAt", "(I)I"⟩
abbrev cX5_add : ByteArray := prog_7_method_5_code
def yX5_add : MethodName := ⟨RX5, "add", "(I)V"⟩
abbrev cX5_empty : ByteArray := prog_7_method_6_code
def yX5_empty : MethodName := ⟨RX5, "empty", "()V"⟩
def RX6 : String := "PocketCards"
def TX6 : u_T := fun k => match k with
  | 0 => ("PocketCards", "state", "LPocketCards$State;", true)
  | 1 => ("PocketCards", "before", "LPocketCards$State;", true)
  | 2 => ("PocketCards", "trial", "LPocketCards$State;", true)
  | 3 => ("PocketCards", "snapshot", "LPocketCards$State;", true)
  | 4 => ("PocketCards", "hasSnapshot", "Z", false)
  | 5 => ("PocketCards", "history", "LPocketCards$History;", true)
  | _ => ("PocketCards", "text", "LPocketCards$Text;", true)
def tyX6 : Nat → FieldType := fun k => match k with
  | 0 => .object "PocketCards$State"
  | 1 => .object "PocketCards$State"
  | 2 => .object "PocketCards$State"
  | 3 => .object "PocketCards$State"
  | 4 => .boolean
  | 5 => .object "PocketCards$History"
  | _ => .object "PocketCards$Text"
abbrev wsX60 : List Cond := u_ws RX6 TX6 7
theorem nmX6 : ∀ a, a < 7 → ∀ b, b < 7 → a ≠ b → (TX6 a).2.1 ≠ (TX6 b).2.1 := by decide +kernel
theorem tyX6_ok : ∀ k, k < 7 → parseFieldDescriptor (TX6 k).2.2.1 = some (tyX6 k) := by decide +kernel
abbrev cX6_init : ByteArray := prog_1_method_1_code
def yX6_init : MethodName := ⟨RX6, "<init>", "()V"⟩
abbrev cX6_put : ByteArray := prog_1_method_2_code
def yX6_put : MethodName := ⟨RX6, "put", "(I)I"⟩
abbrev cX6_take : ByteArray := prog_1_method_3_code
def yX6_take : MethodName := ⟨RX6, "take", "(I)I"⟩
abbrev cX6_sleep : ByteArray := prog_1_method_4_code
def yX6_sleep : MethodName := ⟨RX6, "sleep", "(I)I"⟩
abbrev cX6_wakeAll : ByteArray := prog_1_method_5_code
def yX6_wakeAll : MethodName := ⟨RX6, "wakeAll", "()I"⟩
abbrev cX6_leave : ByteArray := prog_1_method_6_code
def yX6_leave : MethodName := ⟨RX6, "leave", "(II)I"⟩
abbrev cX6_set : ByteArray := prog_1_method_7_code
def yX6_set : MethodName := ⟨RX6, "set", "(II)I"⟩
abbrev cX6_shuffle : ByteArray := prog_1_method_8_code
def yX6_shuffle : MethodName := ⟨RX6, "shuffle", "(I)I"⟩
abbrev cX6_forget : ByteArray := prog_1_method_9_code
def yX6_forget : MethodName := ⟨RX6, "forget", "()I"⟩
abbrev cX6_ask : ByteArray := prog_1_method_10_code
def yX6_ask : MethodName := ⟨RX6, "ask", "(II)I"⟩
abbrev cX6_walk : ByteArray := prog_1_method_11_code
def yX6_walk : MethodName := ⟨RX6, "walk", "(Z)I"⟩
abbrev cX6_frame : ByteArray := prog_1_method_12_code
def yX6_frame : MethodName := ⟨RX6, "frame", "(I)I"⟩
abbrev cX6_rounds : ByteArray := prog_1_method_13_code
def yX6_rounds : MethodName := ⟨RX6, "rounds", "(I)I"⟩
abbrev cX6_type : ByteArray := prog_1_method_14_code
def yX6_type : MethodName := ⟨RX6, "type", "(C)I"⟩
abbrev cX6_clearText : ByteArray := prog_1_method_15_code
def yX6_clearText : MethodName := ⟨RX6, "clearText", "()I"⟩
abbrev cX6_perform : ByteArray := prog_1_method_16_code
def yX6_perform : MethodName := ⟨RX6, "perform", "()I"⟩
abbrev cX6_undo : ByteArray := prog_1_method_17_code
def yX6_undo : MethodName := ⟨RX6, "undo", "()I"⟩
abbrev cX6_keep : ByteArray := prog_1_method_18_code
def yX6_keep : MethodName := ⟨RX6, "keep", "()I"⟩
abbrev cX6_restore : ByteArray := prog_1_method_19_code
def yX6_restore : MethodName := ⟨RX6, "restore", "()I"⟩
abbrev cX6_card : ByteArray := prog_1_method_20_code
def yX6_card : MethodName := ⟨RX6, "card", "(I)I"⟩
abbrev cX6_ofCard : ByteArray := prog_1_method_21_code
def yX6_ofCard : MethodName := ⟨RX6, "ofCard", "(II)I"⟩
abbrev cX6_told : ByteArray := prog_1_method_22_code
def yX6_told : MethodName := ⟨RX6, "told", "(I)I"⟩
abbrev cX6_total : ByteArray := prog_1_method_23_code
def yX6_total : MethodName := ⟨RX6, "total", "(I)I"⟩
abbrev cX6_count : ByteArray := prog_1_method_24_code
def yX6_count : MethodName := ⟨RX6, "count", "(II)I"⟩
abbrev cX6_walkTakes : ByteArray := prog_1_method_25_code
def yX6_walkTakes : MethodName := ⟨RX6, "walkTakes", "(ZI)I"⟩
abbrev cX6_roundsTake : ByteArray := prog_1_method_26_code
def yX6_roundsTake : MethodName := ⟨RX6, "roundsTake", "(II)I"⟩
abbrev cX6_bestFrame : ByteArray := prog_1_method_27_code
def yX6_bestFrame : MethodName := ⟨RX6, "bestFrame", "()I"⟩
abbrev cX6_thickest : ByteArray := prog_1_method_28_code
def yX6_thickest : MethodName := ⟨RX6, "thickest", "(I)I"⟩
abbrev cX6_recorded : ByteArray := prog_1_method_29_code
def yX6_recorded : MethodName := ⟨RX6, "recorded", "(I)I"⟩
abbrev cX6_isBeginning : ByteArray := prog_1_method_30_code
def yX6_isBeginning : MethodName := ⟨RX6, "isBeginning", "(II)Z"⟩
abbrev cX6_isFrameSize : ByteArray := prog_1_method_31_code
def yX6_isFrameSize : MethodName := ⟨RX6, "isFrameSize", "(I)Z"⟩
abbrev cX6_firstBits : ByteArray := prog_1_method_32_code
def yX6_firstBits : MethodName := ⟨RX6, "firstBits", "(II)I"⟩
abbrev cX6_firstOne : ByteArray := prog_1_method_33_code
def yX6_firstOne : MethodName := ⟨RX6, "firstOne", "(I)I"⟩
def RX7 : String := "PocketCardsModel"
def TX7 : u_T := fun k => match k with
  | 0 => ("PocketCardsModel", "z", "[I", true)
  | 1 => ("PocketCardsModel", "spare", "[I", true)
  | 2 => ("PocketCardsModel", "past", "[I", true)
  | 3 => ("PocketCardsModel", "states", "I", false)
  | 4 => ("PocketCardsModel", "kept", "[I", true)
  | 5 => ("PocketCardsModel", "isKept", "Z", false)
  | 6 => ("PocketCardsModel", "text", "[I", true)
  | 7 => ("PocketCardsModel", "length", "I", false)
  | 8 => ("PocketCardsModel", "answerMany", "I", false)
  | 9 => ("PocketCardsModel", "answering", "I", false)
  | 10 => ("PocketCardsModel", "answeringName", "I", false)
  | 11 => ("PocketCardsModel", "unlikeBits", "I", false)
  | 12 => ("PocketCardsModel", "stack", "[I", true)
  | 13 => ("PocketCardsModel", "greatest", "I", false)
  | 14 => ("PocketCardsModel", "drew", "[I", true)
  | 15 => ("PocketCardsModel", "drawn", "[I", true)
  | 16 => ("PocketCardsModel", "signs", "[I", true)
  | 17 => ("PocketCardsModel", "numbers", "[I", true)
  | 18 => ("PocketCardsModel", "orderMany", "I", false)
  | _ => ("PocketCardsModel", "spot", "I", false)
def tyX7 : Nat → FieldType := fun k => match k with
  | 0 => .array .int
  | 1 => .array .int
  | 2 => .array .int
  | 3 => .int
  | 4 => .array .int
  | 5 => .boolean
  | 6 => .array .int
  | 7 => .int
  | 8 => .int
  | 9 => .int
  | 10 => .int
  | 11 => .int
  | 12 => .array .int
  | 13 => .int
  | 14 => .array .int
  | 15 => .array .int
  | 16 => .array .int
  | 17 => .array .int
  | 18 => .int
  | _ => .int
abbrev wsX70 : List Cond := u_ws RX7 TX7 20
theorem nmX7 : ∀ a, a < 20 → ∀ b, b < 20 → a ≠ b → (TX7 a).2.1 ≠ (TX7 b).2.1 := by decide +kernel
theorem tyX7_ok : ∀ k, k < 20 → parseFieldDescriptor (TX7 k).2.2.1 = some (tyX7 k) := by decide +kernel
abbrev cX7_init : ByteArray := prog_9_method_1_code
def yX7_init : MethodName := ⟨RX7, "<init>", "()V"⟩
abbrev cX7_in : ByteArray := prog_9_method_2_code
def yX7_in : MethodName := ⟨RX7, "in", "(III)Z"⟩
abbrev cX7_of : ByteArray := prog_9_method_3_code
def yX7_of : MethodName := ⟨RX7, "of", "(II)I"⟩
abbrev cX7_lay : ByteArray := prog_9_method_4_code
def yX7_lay : MethodName := ⟨RX7, "lay", "(III)V"⟩
abbrev cX7_cardWith : ByteArray := prog_9_method_5_code
def yX7_cardWith : MethodName := ⟨RX7, "cardWith", "(I)I"⟩
abbrev cX7_copyState : ByteArray := prog_9_method_6_code
def yX7_copyState : MethodName := ⟨RX7, "copyState", "([II[II)V"⟩
abbrev cX7_recordRow : ByteArray := prog_9_method_7_code
def yX7_recordRow : MethodName := ⟨RX7, "recordRow", "([I)V"⟩
abbrev cX7_record : ByteArray := prog_9_method_8_code
def yX7_record : MethodName := ⟨RX7, "record", "()V"⟩
abbrev cX7_undo : ByteArray := prog_9_method_9_code
def yX7_undo : MethodName := ⟨RX7, "undo", "()I"⟩
abbrev cX7_keep : ByteArray := prog_9_method_10_code
def yX7_keep : MethodName := ⟨RX7, "keep", "()I"⟩
abbrev cX7_restore : ByteArray := prog_9_method_11_code
def yX7_restore : MethodName := ⟨RX7, "restore", "()I"⟩
abbrev cX7_whyNotPut : ByteArray := prog_9_method_12_code
def yX7_whyNotPut : MethodName := ⟨RX7, "whyNotPut", "(I)I"⟩
abbrev cX7_putNow : ByteArray := prog_9_method_13_code
def yX7_putNow : MethodName := ⟨RX7, "putNow", "(I)V"⟩
abbrev cX7_takeNow : ByteArray := prog_9_method_14_code
def yX7_takeNow : MethodName := ⟨RX7, "takeNow", "(I)V"⟩
abbrev cX7_put : ByteArray := prog_9_method_15_code
def yX7_put : MethodName := ⟨RX7, "put", "(I)I"⟩
abbrev cX7_take : ByteArray := prog_9_method_16_code
def yX7_take : MethodName := ⟨RX7, "take", "(I)I"⟩
abbrev cX7_awake : ByteArray := prog_9_method_17_code
def yX7_awake : MethodName := ⟨RX7, "awake", "()I"⟩
abbrev cX7_sleep : ByteArray := prog_9_method_18_code
def yX7_sleep : MethodName := ⟨RX7, "sleep", "(I)I"⟩
abbrev cX7_wakeNow : ByteArray := prog_9_method_19_code
def yX7_wakeNow : MethodName := ⟨RX7, "wakeNow", "()V"⟩
abbrev cX7_wakeAll : ByteArray := prog_9_method_20_code
def yX7_wakeAll : MethodName := ⟨RX7, "wakeAll", "()I"⟩
abbrev cX7_leave : ByteArray := prog_9_method_21_code
def yX7_leave : MethodName := ⟨RX7, "leave", "(II)I"⟩
abbrev cX7_set : ByteArray := prog_9_method_22_code
def yX7_set : MethodName := ⟨RX7, "set", "(II)I"⟩
abbrev cX7_shuffle : ByteArray := prog_9_method_23_code
def yX7_shuffle : MethodName := ⟨RX7, "shuffle", "(I)I"⟩
abbrev cX7_forget : ByteArray := prog_9_method_24_code
def yX7_forget : MethodName := ⟨RX7, "forget", "()I"⟩
abbrev cX7_tell : ByteArray := prog_9_method_25_code
def yX7_tell : MethodName := ⟨RX7, "tell", "(I)V"⟩
abbrev cX7_letGo : ByteArray := prog_9_method_26_code
def yX7_letGo : MethodName := ⟨RX7, "letGo", "()V"⟩
abbrev cX7_begins : ByteArray := prog_9_method_27_code
def yX7_begins : MethodName := ⟨RX7, "begins", "(III)Z"⟩
abbrev cX7_noAnswer : ByteArray := prog_9_method_28_code
def yX7_noAnswer : MethodName := ⟨RX7, "noAnswer", "()V"⟩
abbrev cX7_answers : ByteArray := prog_9_method_29_code
def yX7_answers : MethodName := ⟨RX7, "answers", "(I)V"⟩
abbrev cX7_clashBit : ByteArray := prog_9_method_30_code
def yX7_clashBit : MethodName := ⟨RX7, "clashBit", "()I"⟩
abbrev cX7_answer : ByteArray := prog_9_method_31_code
def yX7_answer : MethodName := ⟨RX7, "answer", "()I"⟩
abbrev cX7_askNow : ByteArray := prog_9_method_32_code
def yX7_askNow : MethodName := ⟨RX7, "askNow", "(II)I"⟩
abbrev cX7_isBeginning : ByteArray := prog_9_method_33_code
def yX7_isBeginning : MethodName := ⟨RX7, "isBeginning", "(II)Z"⟩
abbrev cX7_ask : ByteArray := prog_9_method_34_code
def yX7_ask : MethodName := ⟨RX7, "ask", "(II)I"⟩
abbrev cX7_walkNow : ByteArray := prog_9_method_35_code
def yX7_walkNow : MethodName := ⟨RX7, "walkNow", "(Z)V"⟩
abbrev cX7_walk : ByteArray := prog_9_method_36_code
def yX7_walk : MethodName := ⟨RX7, "walk", "(Z)I"⟩
abbrev cX7_draw : ByteArray := prog_9_method_37_code
def yX7_draw : MethodName := ⟨RX7, "draw", "(I)I"⟩
abbrev cX7_frameNow : ByteArray := prog_9_method_38_code
def yX7_frameNow : MethodName := ⟨RX7, "frameNow", "(I)V"⟩
abbrev cX7_isSlots : ByteArray := prog_9_method_39_code
def yX7_isSlots : MethodName := ⟨RX7, "isSlots", "(I)Z"⟩
abbrev cX7_frame : ByteArray := prog_9_method_40_code
def yX7_frame : MethodName := ⟨RX7, "frame", "(I)I"⟩
abbrev cX7_nextSize : ByteArray := prog_9_method_41_code
def yX7_nextSize : MethodName := ⟨RX7, "nextSize", "(III)I"⟩
abbrev cX7_roundsNow : ByteArray := prog_9_method_42_code
def yX7_roundsNow : MethodName := ⟨RX7, "roundsNow", "(I)I"⟩
abbrev cX7_rounds : ByteArray := prog_9_method_43_code
def yX7_rounds : MethodName := ⟨RX7, "rounds", "(I)I"⟩
abbrev cX7_type : ByteArray := prog_9_method_44_code
def yX7_type : MethodName := ⟨RX7, "type", "(C)I"⟩
abbrev cX7_clearText : ByteArray := prog_9_method_45_code
def yX7_clearText : MethodName := ⟨RX7, "clearText", "()I"⟩
abbrev cX7_sees : ByteArray := prog_9_method_46_code
def yX7_sees : MethodName := ⟨RX7, "sees", "(II)Z"⟩
abbrev cX7_takes : ByteArray := prog_9_method_47_code
def yX7_takes : MethodName := ⟨RX7, "takes", "(I)Z"⟩
abbrev cX7_number : ByteArray := prog_9_method_48_code
def yX7_number : MethodName := ⟨RX7, "number", "(II)I"⟩
abbrev cX7_readOrder : ByteArray := prog_9_method_49_code
def yX7_readOrder : MethodName := ⟨RX7, "readOrder", "()Z"⟩
abbrev cX7_readText : ByteArray := prog_9_method_50_code
def yX7_readText : MethodName := ⟨RX7, "readText", "()Z"⟩
abbrev cX7_whyNot : ByteArray := prog_9_method_51_code
def yX7_whyNot : MethodName := ⟨RX7, "whyNot", "(II)I"⟩
abbrev cX7_carryOut : ByteArray := prog_9_method_52_code
def yX7_carryOut : MethodName := ⟨RX7, "carryOut", "(II)V"⟩
abbrev cX7_perform : ByteArray := prog_9_method_53_code
def yX7_perform : MethodName := ⟨RX7, "perform", "()I"⟩
abbrev cX7_card : ByteArray := prog_9_method_54_code
def yX7_card : MethodName := ⟨RX7, "card", "(I)I"⟩
abbrev cX7_shares : ByteArray := prog_9_method_55_code
def yX7_shares : MethodName := ⟨RX7, "shares", "(I)I"⟩
abbrev cX7_ofCard : ByteArray := prog_9_method_56_code
def yX7_ofCard : MethodName := ⟨RX7, "ofCard", "(II)I"⟩
abbrev cX7_told : ByteArray := prog_9_method_57_code
def yX7_told : MethodName := ⟨RX7, "told", "(I)I"⟩
abbrev cX7_leaving : ByteArray := prog_9_method_58_code
def yX7_leaving : MethodName := ⟨RX7, "leaving", "()I"⟩
abbrev cX7_total : ByteArray := prog_9_method_59_code
def yX7_total : MethodName := ⟨RX7, "total", "(I)I"⟩
abbrev cX7_withBeginning : ByteArray := prog_9_method_60_code
def yX7_withBeginning : MethodName := ⟨RX7, "withBeginning", "(II)I"⟩
abbrev cX7_count : ByteArray := prog_9_method_61_code
def yX7_count : MethodName := ⟨RX7, "count", "(II)I"⟩
abbrev cX7_walkTakes : ByteArray := prog_9_method_62_code
def yX7_walkTakes : MethodName := ⟨RX7, "walkTakes", "(ZI)I"⟩
abbrev cX7_roundsTake : ByteArray := prog_9_method_63_code
def yX7_roundsTake : MethodName := ⟨RX7, "roundsTake", "(II)I"⟩
abbrev cX7_bestFrame : ByteArray := prog_9_method_64_code
def yX7_bestFrame : MethodName := ⟨RX7, "bestFrame", "()I"⟩
abbrev cX7_thickest : ByteArray := prog_9_method_65_code
def yX7_thickest : MethodName := ⟨RX7, "thickest", "(I)I"⟩
def RL : String := "PocketCardsLaw"
abbrev cL_law : ByteArray := code
def yL_law : MethodName := ⟨RL, "law", "([I)Z"⟩
abbrev vwCl : List vw_C := [(RX0, TX0, 2), (RX1, TX1, 7), (RX2, TX2, 7), (RX3, TX3, 8), (RX4, TX4, 7), (RX5, TX5, 2), (RX6, TX6, 7), (RX7, TX7, 20)]
theorem inX0 : ∀ w ∈ wsX00, w ∈ lw_tbl := by decide +kernel
theorem inX1 : ∀ w ∈ wsX10, w ∈ lw_tbl := by decide +kernel
theorem inX2 : ∀ w ∈ wsX20, w ∈ lw_tbl := by decide +kernel
theorem inX3 : ∀ w ∈ wsX30, w ∈ lw_tbl := by decide +kernel
theorem inX4 : ∀ w ∈ wsX40, w ∈ lw_tbl := by decide +kernel
theorem inX5 : ∀ w ∈ wsX50, w ∈ lw_tbl := by decide +kernel
theorem inX6 : ∀ w ∈ wsX60, w ∈ lw_tbl := by decide +kernel
theorem inX7 : ∀ w ∈ wsX70, w ∈ lw_tbl := by decide +kernel
end
section
/-! THE ABSTRACT PICTURE: objects by numbers (0: the script, 1 .. n: what the law made, in order), ints as integers -/
def tbG : List Cond := lw_tbl.filter goodWord
theorem mg {w : Cond} (i : Nat) (h : lw_tbl[i]? = some w) (hg : goodWord w = true) : w ∈ tbG := List.mem_filter.mpr ⟨List.mem_of_getElem? h, hg⟩
abbrev AV : Type := Int ⊕ Option Nat
abbrev AH : Type := Nat × (Nat → Nat × Nat) × (Nat → Int → Option Nat) × (Nat → Int → Int)
abbrev MD : Type := MethodName × ByteArray × Nat × Option FieldType × (Nat × Nat)
def hk (h : AH) : Nat → Nat × Nat := h.2.1
def hr (h : AH) : Nat → Int → Option Nat := h.2.2.1
def hi (h : AH) : Nat → Int → Int := h.2.2.2
def up (h : AH) (j : Nat) (k v : Int) : AH := (h.1, h.2.1, h.2.2.1, fun a b => if a = j ∧ b = k then v else h.2.2.2 a b)
def ur (h : AH) (j : Nat) (k : Int) (v : Option Nat) : AH := (h.1, h.2.1, fun a b => if a = j ∧ b = k then v else h.2.2.1 a b, h.2.2.2)
def nw (h : AH) (kd : Nat × Nat) : AH := (h.1 + 1, fun a => if a = h.1 + 1 then kd else h.2.1 a, fun a b => if a = h.1 + 1 then none else h.2.2.1 a b, fun a b => if a = h.1 + 1 then 0 else h.2.2.2 a b)
theorem hi_up {h : AH} {j : Nat} {k v : Int} {a : Nat} {b : Int} : hi (up h j k v) a b = if a = j ∧ b = k then v else hi h a b := rfl
theorem hk_up {h : AH} {j : Nat} {k v : Int} : hk (up h j k v) = hk h := rfl
theorem hr_up {h : AH} {j : Nat} {k v : Int} : hr (up h j k v) = hr h := rfl
theorem hi_ur {h : AH} {j : Nat} {k : Int} {v : Option Nat} : hi (ur h j k v) = hi h := rfl
theorem hk_ur {h : AH} {j : Nat} {k : Int} {v : Option Nat} : hk (ur h j k v) = hk h := rfl
theorem hr_ur {h : AH} {j : Nat} {k : Int} {v : Option Nat} {a : Nat} {b : Int} : hr (ur h j k v) a b = if a = j ∧ b = k then v else hr h a b := rfl
def az (b B : Nat) : Nat → Nat
  | 0 => b
  | j + 1 => B + j
def cv (b B : Nat) : AV → Value
  | .inl v => .int (Int32.ofInt v)
  | .inr r => va_rf (r.map (az b B))
def ok : AV → Prop
  | .inl v => -2147483648 ≤ v ∧ v < 2147483648
  | .inr _ => True
abbrev rg (v : Int) : Prop := -2147483648 ≤ v ∧ v < 2147483648
def w (v : Int) : Int := (Int32.ofInt v).toInt
theorem ti {v : Int} (h : rg v) : (Int32.ofInt v).toInt = v := Int32.toInt_ofInt_of_le h.1 h.2
theorem w_id {v : Int} (h : rg v) : w v = v := ti h
theorem w_rg (v : Int) : rg (w v) := ⟨Int32.le_toInt _, Int32.toInt_lt _⟩
theorem w_of (v : Int) : Int32.ofInt (w v) = Int32.ofInt v := Int32.ofInt_toInt _
theorem rg_of (x : Int32) : rg x.toInt := ⟨Int32.le_toInt _, Int32.toInt_lt _⟩
theorem w_eq (v : Int) : w v = (v + 2147483648) % 4294967296 - 2147483648 := by
  unfold w
  rw [Int32.toInt_ofInt, Int.bmod_def]
  simp only [Int32.size]
  split <;> omega
def cN (ci : Nat) : Nat := match ci with | 0 => 2 | 1 => 7 | 2 => 7 | 3 => 8 | 4 => 7 | 5 => 2 | 6 => 7 | _ => 20
def cR (ci : Nat) : String := match ci with | 0 => RX0 | 1 => RX1 | 2 => RX2 | 3 => RX3 | 4 => RX4 | 5 => RX5 | 6 => RX6 | _ => RX7
def cU (ci : Nat) : u_T := match ci with | 0 => TX0 | 1 => TX1 | 2 => TX2 | 3 => TX3 | 4 => TX4 | 5 => TX5 | 6 => TX6 | _ => TX7
def cT (ci : Nat) : Nat → FieldType := match ci with | 0 => tyX0 | 1 => tyX1 | 2 => tyX2 | 3 => tyX3 | 4 => tyX4 | 5 => tyX5 | 6 => tyX6 | _ => tyX7
def isR : FieldType → Bool
  | .object _ => true
  | .array _ => true
  | _ => false
theorem cl_at {ci : Nat} (h : ci < 8) : vwCl[ci]? = some (cR ci, cU ci, cN ci) := by
  match ci, h with
  | 0, _ => rfl
  | 1, _ => rfl
  | 2, _ => rfl
  | 3, _ => rfl
  | 4, _ => rfl
  | 5, _ => rfl
  | 6, _ => rfl
  | 7, _ => rfl
theorem cl_words {ci : Nat} (h : ci < 8) : ∀ w ∈ u_ws (cR ci) (cU ci) (cN ci), w ∈ tbG := by
  have g : ∀ k, k < 8 → ∀ w ∈ u_ws (cR k) (cU k) (cN k), goodWord w = true := by decide +kernel
  intro w hw
  refine List.mem_filter.mpr ⟨?_, g ci h w hw⟩
  match ci, h, hw with
  | 0, _, hw => exact inX0 w hw
  | 1, _, hw => exact inX1 w hw
  | 2, _, hw => exact inX2 w hw
  | 3, _, hw => exact inX3 w hw
  | 4, _, hw => exact inX4 w hw
  | 5, _, hw => exact inX5 w hw
  | 6, _, hw => exact inX6 w hw
  | 7, _, hw => exact inX7 w hw
theorem cl_nm {ci : Nat} (h : ci < 8) : ∀ a, a < cN ci → ∀ b, b < cN ci → a ≠ b → (cU ci a).2.1 ≠ (cU ci b).2.1 := by
  match ci, h with
  | 0, _ => exact nmX0
  | 1, _ => exact nmX1
  | 2, _ => exact nmX2
  | 3, _ => exact nmX3
  | 4, _ => exact nmX4
  | 5, _ => exact nmX5
  | 6, _ => exact nmX6
  | 7, _ => exact nmX7
theorem cl_ty {ci : Nat} (h : ci < 8) : ∀ k, k < cN ci → parseFieldDescriptor (cU ci k).2.2.1 = some (cT ci k) := by
  match ci, h with
  | 0, _ => exact tyX0_ok
  | 1, _ => exact tyX1_ok
  | 2, _ => exact tyX2_ok
  | 3, _ => exact tyX3_ok
  | 4, _ => exact tyX4_ok
  | 5, _ => exact tyX5_ok
  | 6, _ => exact tyX6_ok
  | 7, _ => exact tyX7_ok
def fvl (b B : Nat) (h : AH) (j ci k : Nat) : Value := if isR (cT ci k) = true then va_rf ((hr h j k).map (az b B)) else .int (Int32.ofInt (hi h j k))
def enc (b B : Nat) (ca : Nat → ClassId) (h : AH) (j : Nat) : va_E := match hk h j with
  | (0, ci) => .inr (ci, (List.range (cN ci)).map (fvl b B h j ci))
  | (1, n) => .inl (ca 1, n, .inl fun k => Int32.ofInt (hi h j k))
  | (2, n) => .inl (ca 2, n, .inl fun k => Int32.ofInt (hi h j k))
  | (3, n) => .inl (ca 3, n, .inl fun k => Int32.ofInt (hi h j k))
  | (_, n) => .inl (ca 4, n, .inr (.inr (.inr (.inr fun k => (hr h j k).map (az b B)))))
def wso (b B : Nat) (ca : Nat → ClassId) (h : AH) : va_W := (List.range h.1).map fun j => (B + j, enc b B ca h (j + 1))
def tys (ca : Nat → ClassId) : List (ClassId × FieldType) := [(ca 1, .int), (ca 2, .boolean), (ca 3, .char), (ca 4, .object RX2)]
def nsL : List (String × Nat × MethodName × String) := [(RX2, 11, yX1_init, "PocketCards"), (RX2, 20, yX5_init, "PocketCards"), (RX2, 27, yX3_init, "PocketCards"), (RX6, 38, yX4_init, "PocketCards"), (RX1, 52, yX6_firstBits, "PocketCards"), (RX2, 142, yX6_firstOne, "PocketCards"), (RX2, 157, yX6_isBeginning, "PocketCards"), (RX2, 164, yX6_firstBits, "PocketCards"), (RX2, 167, yX6_isFrameSize, "PocketCards"), (RX1, 39, yX6_firstOne, "PocketCards")]
/-- what the tables say that isn't kept word for word: links to nest mates, the class of rows of states -/
def NW (s : State) : Prop := (∀ q ∈ nsL, va_Nw (.methodLinkNest q.1 q.2.1 q.2.2.1 q.2.2.2) s) ∧ va_AO RX2 s
theorem NW.warm {s U : State} (hW : s.WarmedH U.vm) (h : NW s) : NW U := ⟨fun q hq => (h.1 q hq).warmM hW, h.2.moved hW.alike⟩
theorem NW.call {U : State} {g : JFrame} {mk : MethodId} {a : Array Value} (h : NW U) : NW (U.calling g mk a) := ⟨fun q hq => (h.1 q hq).same rfl rfl, h.2.moved (u := U) (U := U.calling g mk a) (Vm.Alike.refl U.vm)⟩
def okH (h : AH) : Prop := (∀ j k, rg (hi h j k)) ∧ hk h 0 = (9, 0) ∧ (∀ j, h.1 < j → hk h j = (9, 0)) ∧ ∀ j ci, hk h j = (0, ci) → ci < 8
def HP (b B : Nat) (D : va_G) (ca : Nat → ClassId) (h : AH) (H : Heap) : Prop := H.size = B + h.1 ∧ va_P D vwCl (wso b B ca h) H ∧ okH h
theorem wso_at {b B : Nat} {ca : Nat → ClassId} {h : AH} {j : Nat} (hj : j < h.1) : (wso b B ca h)[j]? = some (B + j, enc b B ca h (j + 1)) := by
  simp [wso, hj]
theorem wso_D {b B : Nat} {ca : Nat → ClassId} {h : AH} : va_D (fun q => B ≤ q) (wso b B ca h) := by
  have key : ∀ (i : Nat) (q : Nat × va_E), (wso b B ca h)[i]? = some q → q.1 = B + i := by
    intro i q hq
    have hl : i < (wso b B ca h).length := (List.getElem?_eq_some_iff.mp hq).1
    have hl' : i < h.1 := by simpa [wso] using hl
    rw [wso_at hl'] at hq
    cases hq
    rfl
  refine ⟨fun i j p q hp hq e => ?_, fun k q hq => ?_⟩
  · have h1 := key i p hp
    have h2 := key j q hq
    omega
  · have h1 := key k q hq
    show B ≤ q.1
    omega
theorem wso_set {b B : Nat} {ca : Nat → ClassId} {h h' : AH} {j : Nat} (hj : j < h.1) (hn : h'.1 = h.1) (he : ∀ i, i ≠ j + 1 → enc b B ca h' i = enc b B ca h i) : (wso b B ca h).set j (B + j, enc b B ca h' (j + 1)) = wso b B ca h' := by
  apply List.ext_getElem?
  intro i
  by_cases hij : i = j
  · subst hij
    rw [List.getElem?_set_self (by simpa [wso] using hj), wso_at (by omega)]
  · rw [List.getElem?_set_ne (Ne.symm hij)]
    by_cases hi : i < h.1
    · rw [wso_at hi, wso_at (by omega), he (i + 1) (by omega)]
    · rw [List.getElem?_eq_none (by simp [wso]; omega), List.getElem?_eq_none (by simp [wso]; omega)]
theorem wso_push {b B : Nat} {ca : Nat → ClassId} {h h' : AH} (hn : h'.1 = h.1 + 1) (he : ∀ i, i ≤ h.1 → enc b B ca h' i = enc b B ca h i) : wso b B ca h ++ [(B + h.1, enc b B ca h' (h.1 + 1))] = wso b B ca h' := by
  unfold wso
  rw [hn, List.range_succ, List.map_append]
  congr 1
  apply List.map_congr_left
  intro a ha
  have ha' := List.mem_range.mp ha
  rw [he (a + 1) (by omega)]
theorem enc_cong {b B : Nat} {ca : Nat → ClassId} {h h' : AH} {i : Nat} (h1 : hk h' i = hk h i) (h2 : ∀ k, hr h' i k = hr h i k) (h3 : ∀ k, hi h' i k = hi h i k) : enc b B ca h' i = enc b B ca h i := by
  have f : ∀ ci, fvl b B h' i ci = fvl b B h i ci := by
    intro ci
    funext k
    simp only [fvl, h2, h3]
  unfold enc
  simp only [h1, h2, h3, f]
/-! locals -/
def lpr (b B : Nat) : Nat → List (Option AV) → List (Nat × Value)
  | _, [] => []
  | i, none :: t => lpr b B (i + 1) t
  | i, some v :: t => (i, cv b B v) :: lpr b B (i + 1) t
theorem lpr_mem {b B : Nat} : ∀ (t : List (Option AV)) (i k : Nat) (v : AV), t[k]? = some (some v) → (i + k, cv b B v) ∈ lpr b B i t
  | [], i, k, v, h => by simp at h
  | none :: t, i, 0, v, h => by simp at h
  | none :: t, i, k + 1, v, h => by
    have := lpr_mem (b := b) (B := B) t (i + 1) k v (by simpa using h)
    rw [show i + (k + 1) = i + 1 + k by omega]
    exact this
  | some u :: t, i, 0, v, h => by
    simp at h
    subst h
    exact List.mem_cons_self
  | some u :: t, i, k + 1, v, h => by
    have := lpr_mem (b := b) (B := B) t (i + 1) k v (by simpa using h)
    rw [show i + (k + 1) = i + 1 + k by omega]
    exact List.mem_cons_of_mem _ this
theorem lpr_mem' {b B : Nat} : ∀ (t : List (Option AV)) (i : Nat) (q : Nat × Value), q ∈ lpr b B i t → ∃ k v, t[k]? = some (some v) ∧ q = (i + k, cv b B v)
  | [], i, q, h => by simp [lpr] at h
  | none :: t, i, q, h => by
    obtain ⟨k, v, h1, h2⟩ := lpr_mem' t (i + 1) q h
    exact ⟨k + 1, v, by simpa using h1, by rw [h2]; congr 1; omega⟩
  | some u :: t, i, q, h => by
    rcases List.mem_cons.mp h with h | h
    · exact ⟨0, u, rfl, h⟩
    · obtain ⟨k, v, h1, h2⟩ := lpr_mem' t (i + 1) q h
      exact ⟨k + 1, v, by simpa using h1, by rw [h2]; congr 1; omega⟩
def LR (b B : Nat) (ls : List (Option AV)) (lc : Array Slot) : Prop := lv_has lc ls.length (lpr b B 0 ls) ∧ ∀ (k : Nat) (v : AV), ls[k]? = some (some v) → ok v
theorem LR.get {b B : Nat} {ls : List (Option AV)} {lc : Array Slot} (h : LR b B ls lc) {i : Nat} {v : AV} (hi : ls[i]? = some (some v)) : lc[i]? = some (.val (cv b B v)) := by
  have := h.1.2.2 _ (lpr_mem ls 0 i v hi)
  simpa using this
theorem cv_cat {b B : Nat} (v : AV) : (cv b B v).category = 1 := by
  rcases v with v | _ | j <;> rfl
theorem LR.set {b B : Nat} {ls : List (Option AV)} {lc lc' : Array Slot} (h : LR b B ls lc) {i : Nat} {v : AV} (hi : i < ls.length) (hv : ok v) (h' : lv_has lc' ls.length ((i, cv b B v) :: (lpr b B 0 ls).filter (fun q => !(q.1 == i) && !(q.1 + 1 == i && q.2.category == 2)))) : LR b B (ls.set i (some v)) lc' := by
  refine ⟨⟨by rw [List.length_set]; exact h'.1, h'.2.1, fun q hq => ?_⟩, fun k u hk => ?_⟩
  · obtain ⟨k, u, h1, h2⟩ := lpr_mem' _ _ _ hq
    refine h'.2.2 q ?_
    by_cases hki : k = i
    · subst hki
      rw [List.getElem?_set_self hi] at h1
      cases h1
      rw [h2, Nat.zero_add]
      exact List.mem_cons_self
    · rw [List.getElem?_set_ne (Ne.symm hki)] at h1
      refine List.mem_cons_of_mem _ (List.mem_filter.mpr ⟨?_, ?_⟩)
      · rw [h2]
        exact lpr_mem ls 0 k u h1
      · rw [h2]
        simp [cv_cat, hki]
  · by_cases hki : k = i
    · subst hki
      rw [List.getElem?_set_self hi] at hk
      cases hk
      exact hv
    · rw [List.getElem?_set_ne (Ne.symm hki)] at hk
      exact h.2 k u hk
/-! the judgement -/
def CX (md : MD) (d : Nat) (scr : Option (Nat × (Nat → Int))) (p : Program) (R : Room) (s : State) (m : MethodId) (args : Array Value) (meth : Method) (c : Code) (b B : Nat) (D : va_G) (ca : Nat → ClassId) : Prop :=
  p.tables.exec = Jvm.exec ∧ c.code = md.2.1 ∧ c.maxLocals = md.2.2.1 ∧ s.vm.findClass md.1.cls = some m.cls ∧ (∀ w ∈ tbG, w.before args s = true) ∧ meth.name = md.1.name ∧ va_K D vwCl (tys ca) s ∧ (B ≤ s.heap.size ∧ NW s) ∧ R.cells = md.2.2.2.2.1 ∧ R.slots = md.2.2.2.2.2 ∧ d ≤ R.frames ∧ 40 * d ≤ R.locals ∧ (∀ q, scr = some q → va_X b q.1 (fun j => Int32.ofInt (q.2 j)) s s.heap ∧ b < B ∧ B = s.heap.size ∧ q.1 < 2147483648 ∧ ∀ j, rg (q.2 j))
def HR (b B : Nat) (D : va_G) (ca : Nat → ClassId) (H0 : Heap) (h : AH) (H : Heap) (locs : List Loc) : Prop := HP b B D ca h H ∧ va_S (fun q => B ≤ q) H0 H locs
def okr (t : Option FieldType) (v : Int) : Prop := match t with
  | some .int => rg v
  | some .boolean => v = 0 ∨ v = 1
  | some .char => 0 ≤ v ∧ v < 65536
  | _ => False
def AW (md : MD) (d : Nat) (scr : Option (Nat × (Nat → Int))) (Q : Option Int → AH → Prop) (pc : Nat) (ls : List (Option AV)) (st : List AV) (h : AH) (k : Nat × Nat) : Prop :=
  ∀ (p : Program) (l : Launch) (e : Env) (R : Room) (s : State) (m : MethodId) (args : Array Value) (below : List Frame) (meth : Method) (c : Code) (b B : Nat) (D : va_G) (ca : Nat → ClassId) (H : Heap) (locs : List Loc) (lc : Array Slot) (Qw : State → Prop),
    CX md d scr p R s m args meth c b B D ca → ls.length = md.2.2.1 → HR b B D ca s.heap h H locs → LR b B ls lc → (∀ a ∈ st, ok a) →
    (∀ (r : Option Int) (pc : Nat) (h : AH) (H : Heap) (locs : List Loc) (lc : Array Slot) (k : Nat × Nat), HR b B D ca s.heap h H locs → Q r h → k.1 ≤ md.2.2.2.2.1 → k.2 ≤ md.2.2.2.2.2 →
      match r with
      | none => md.2.2.2.1 = none → decode md.2.1 pc = .ok (.return_, 1) → W p l e R s m args below meth c H locs k.1 k.2 Qw (F0 m pc lc [])
      | some v => okr md.2.2.2.1 v → decode md.2.1 pc = .ok (.ireturn, 1) → W p l e R s m args below meth c H locs k.1 k.2 Qw (F0 m pc lc [.int (Int32.ofInt v)])) →
    W p l e R s m args below meth c H locs k.1 k.2 Qw (F0 m pc lc (st.map (cv b B)))
def Pst (b B : Nat) (D : va_G) (ca : Nat → ClassId) (Q : Option Int → AH → Prop) : Array Value → State → Outcome → State → Prop := fun _ st oc t =>
  (∃ (r : Option Int) (h' : AH), oc = .returned (r.map fun v => .int (Int32.ofInt v)) ∧ (∀ v, r = some v → rg v) ∧ Q r h' ∧ HP b B D ca h' t.heap) ∧ va_F (fun q => B ≤ q) st t
def Prc (b B : Nat) (D : va_G) (ca : Nat → ClassId) (as : List AV) (h : AH) : Array Value → State → Prop := va_Pc (as.map (cv b B)) fun U => HP b B D ca h U.heap ∧ va_K D vwCl (tys ca) U ∧ NW U
def rmo (d : Nat) (md : MD) : Room := { frames := d, cells := md.2.2.2.2.1, slots := md.2.2.2.2.2, locals := 40 * d }
def wmo (md : MD) : List Cond := .code md.1 md.2.1 md.2.2.1 md.2.2.2.1 :: tbG
def AM (d : Nat) (md : MD) (as : List AV) (h : AH) (Q : Option Int → AH → Prop) : Prop :=
  ∀ (l : Launch) (b B : Nat) (D : va_G) (ca : Nat → ClassId), (∀ a ∈ as, ok a) → Met l md.1 (wmo md) (rmo d md) (Prc b B D ca as h) (Pst b B D ca Q) md.2.2.2.2.1 md.2.2.2.2.2 (fun q => B ≤ q)
end
section
section RU
variable {md : MD} {d : Nat} {scr : Option (Nat × (Nat → Int))} {Q : Option Int → AH → Prop} {pc : Nat} {ls : List (Option AV)} {st : List AV} {h : AH} {k : Nat × Nat}
theorem ok_of {st : List AV} {a : AV} (ha : ok a) (h : ∀ x ∈ st, ok x) : ∀ x ∈ a :: st, ok x := fun x hx => (List.mem_cons.mp hx).elim (fun e => e ▸ ha) (h x)
theorem ok_tl {st : List AV} {a : AV} (h : ∀ x ∈ a :: st, ok x) : ∀ x ∈ st, ok x := fun x hx => h x (List.mem_cons_of_mem _ hx)
theorem ok_hd {st : List AV} {a : AV} (h : ∀ x ∈ a :: st, ok x) : ok a := h a List.mem_cons_self
theorem rg_i8 (n : Int) : rg (Int8.ofInt n).toInt32.toInt := rg_of _
/-! constants -/
theorem aw_int {n : Int} {len : Nat} {i : Instr} (hd : decode md.2.1 pc = .ok (i, len)) (hi : (i = .iconst n ∧ len = 1 ∧ rg n) ∨ (i = .bipush n ∧ len = 2 ∧ -128 ≤ n ∧ n < 128) ∨ (i = .sipush n ∧ len = 3 ∧ -32768 ≤ n ∧ n < 32768))
    (kk : AW md d scr Q (pc + len) ls (.inl n :: st) h k) : AW md d scr Q pc ls st h k := by
  intro p l e R s m args below meth c b B D ca H locs lc Qw C hlen hH hL hst RH
  rcases hi with ⟨rfl, rfl, hn⟩ | ⟨rfl, rfl, hn⟩ | ⟨rfl, rfl, hn⟩
  · exact lv_iconst (v := Int32.ofInt n) C.1 C.2.1 hd rfl (kk p l e R s m args below meth c b B D ca H locs lc Qw C hlen hH hL (ok_of hn hst) RH)
  · refine lv_bipush (v := Int32.ofInt n) C.1 C.2.1 hd ?_ (kk p l e R s m args below meth c b B D ca H locs lc Qw C hlen hH hL (ok_of ⟨by omega, by omega⟩ hst) RH)
    apply Int32.toInt_inj.mp
    rw [ti ⟨by omega, by omega⟩, Int8.toInt_toInt32]
    exact Int8.toInt_ofInt_of_le (by omega) (by omega)
  · refine lv_sipush (v := Int32.ofInt n) C.1 C.2.1 hd ?_ (kk p l e R s m args below meth c b B D ca H locs lc Qw C hlen hH hL (ok_of ⟨by omega, by omega⟩ hst) RH)
    apply Int32.toInt_inj.mp
    rw [ti ⟨by omega, by omega⟩, Int16.toInt_toInt32]
    exact Int16.toInt_ofInt_of_le (by omega) (by omega)
theorem aw_iconst {n : Int} (hd : decode md.2.1 pc = .ok (.iconst n, 1)) (kk : AW md d scr Q (pc + 1) ls (.inl n :: st) h k) (hn : rg n := by decide) : AW md d scr Q pc ls st h k := aw_int hd (Or.inl ⟨rfl, rfl, hn⟩) kk
theorem aw_bipush {n : Int} (hd : decode md.2.1 pc = .ok (.bipush n, 2)) (kk : AW md d scr Q (pc + 2) ls (.inl n :: st) h k) (hn : -128 ≤ n ∧ n < 128 := by decide) : AW md d scr Q pc ls st h k := aw_int hd (Or.inr (Or.inl ⟨rfl, rfl, hn⟩)) kk
theorem aw_sipush {n : Int} (hd : decode md.2.1 pc = .ok (.sipush n, 3)) (kk : AW md d scr Q (pc + 3) ls (.inl n :: st) h k) (hn : -32768 ≤ n ∧ n < 32768 := by decide) : AW md d scr Q pc ls st h k := aw_int hd (Or.inr (Or.inr ⟨rfl, rfl, hn⟩)) kk
theorem aw_ldc {n : Int} {i : Nat} (hd : decode md.2.1 pc = .ok (.ldc i, 2)) (hc : Jvm.Cond.constant md.1.cls i (Int32.ofInt n) ∈ tbG) (hn : rg n) (kk : AW md d scr Q (pc + 2) ls (.inl n :: st) h k) : AW md d scr Q pc ls st h k := by
  intro p l e R s m args below meth c b B D ca H locs lc Qw C hlen hH hL hst RH
  exact lv_ldc C.1 C.2.1 C.2.2.2.1 (C.2.2.2.2.1 _ hc) hd (kk p l e R s m args below meth c b B D ca H locs lc Qw C hlen hH hL (ok_of hn hst) RH)
/-! locals -/
theorem aw_iload {i : Nat} {v : Int} (hd : decode md.2.1 pc = .ok (.iload i, 2)) (hl : ls[i]? = some (some (.inl v))) (kk : AW md d scr Q (pc + 2) ls (.inl v :: st) h k) : AW md d scr Q pc ls st h k := by
  intro p l e R s m args below meth c b B D ca H locs lc Qw C hlen hH hL hst RH
  exact lv_iload C.1 C.2.1 hd (hL.get hl) (kk p l e R s m args below meth c b B D ca H locs lc Qw C hlen hH hL (ok_of (hL.2 _ _ hl) hst) RH)
theorem aw_iload_n {i : Fin 4} {v : Int} (hd : decode md.2.1 pc = .ok (.iload_n i, 1)) (hl : ls[i.val]? = some (some (.inl v))) (kk : AW md d scr Q (pc + 1) ls (.inl v :: st) h k) : AW md d scr Q pc ls st h k := by
  intro p l e R s m args below meth c b B D ca H locs lc Qw C hlen hH hL hst RH
  exact lv_iload_n C.1 C.2.1 hd rfl (hL.get hl) (kk p l e R s m args below meth c b B D ca H locs lc Qw C hlen hH hL (ok_of (hL.2 _ _ hl) hst) RH)
theorem aw_aload {i : Nat} {r : Option Nat} (hd : decode md.2.1 pc = .ok (.aload i, 2)) (hl : ls[i]? = some (some (.inr r))) (kk : AW md d scr Q (pc + 2) ls (.inr r :: st) h k) : AW md d scr Q pc ls st h k := by
  intro p l e R s m args below meth c b B D ca H locs lc Qw C hlen hH hL hst RH
  have h1 := kk p l e R s m args below meth c b B D ca H locs lc Qw C hlen hH hL (ok_of trivial hst) RH
  have h2 := hL.get hl
  cases r with
  | none => exact lv_aloadN C.1 C.2.1 hd h2 h1
  | some j => exact lv_aload C.1 C.2.1 hd h2 h1
theorem aw_aload_n {i : Fin 4} {r : Option Nat} (hd : decode md.2.1 pc = .ok (.aload_n i, 1)) (hl : ls[i.val]? = some (some (.inr r))) (kk : AW md d scr Q (pc + 1) ls (.inr r :: st) h k) : AW md d scr Q pc ls st h k := by
  intro p l e R s m args below meth c b B D ca H locs lc Qw C hlen hH hL hst RH
  have h1 := kk p l e R s m args below meth c b B D ca H locs lc Qw C hlen hH hL (ok_of trivial hst) RH
  have h2 := hL.get hl
  cases r with
  | none => exact lv_aload_nN C.1 C.2.1 hd rfl h2 h1
  | some j => exact lv_aload_n C.1 C.2.1 hd rfl h2 h1
theorem aw_istore {i : Nat} {v : Int} (hd : decode md.2.1 pc = .ok (.istore i, 2)) (hi : i < ls.length) (kk : AW md d scr Q (pc + 2) (ls.set i (some (.inl v))) st h k) : AW md d scr Q pc ls (.inl v :: st) h k := by
  intro p l e R s m args below meth c b B D ca H locs lc Qw C hlen hH hL hst RH
  exact lv_istore C.1 C.2.1 hd hL.1 hi rfl fun ls' h' => kk p l e R s m args below meth c b B D ca H locs ls' Qw C (by rw [List.length_set]; exact hlen) hH (hL.set (v := .inl v) hi (ok_hd hst) h') (ok_tl hst) RH
theorem aw_istore_n {i : Fin 4} {v : Int} (hd : decode md.2.1 pc = .ok (.istore_n i, 1)) (hi : i.val < ls.length) (kk : AW md d scr Q (pc + 1) (ls.set i.val (some (.inl v))) st h k) : AW md d scr Q pc ls (.inl v :: st) h k := by
  intro p l e R s m args below meth c b B D ca H locs lc Qw C hlen hH hL hst RH
  exact lv_istore_n C.1 C.2.1 hd rfl hL.1 hi rfl fun ls' h' => kk p l e R s m args below meth c b B D ca H locs ls' Qw C (by rw [List.length_set]; exact hlen) hH (hL.set (v := .inl v) hi (ok_hd hst) h') (ok_tl hst) RH
theorem aw_astore {i : Nat} {r : Nat} (hd : decode md.2.1 pc = .ok (.astore i, 2)) (hi : i < ls.length) (kk : AW md d scr Q (pc + 2) (ls.set i (some (.inr (some r)))) st h k) : AW md d scr Q pc ls (.inr (some r) :: st) h k := by
  intro p l e R s m args below meth c b B D ca H locs lc Qw C hlen hH hL hst RH
  exact lv_astore C.1 C.2.1 hd hL.1 hi rfl fun ls' h' => kk p l e R s m args below meth c b B D ca H locs ls' Qw C (by rw [List.length_set]; exact hlen) hH (hL.set (v := .inr (some r)) hi trivial h') (ok_tl hst) RH
theorem aw_astore_n {i : Fin 4} {r : Nat} (hd : decode md.2.1 pc = .ok (.astore_n i, 1)) (hi : i.val < ls.length) (kk : AW md d scr Q (pc + 1) (ls.set i.val (some (.inr (some r)))) st h k) : AW md d scr Q pc ls (.inr (some r) :: st) h k := by
  intro p l e R s m args below meth c b B D ca H locs lc Qw C hlen hH hL hst RH
  exact lv_astore_n C.1 C.2.1 hd rfl hL.1 hi rfl fun ls' h' => kk p l e R s m args below meth c b B D ca H locs ls' Qw C (by rw [List.length_set]; exact hlen) hH (hL.set (v := .inr (some r)) hi trivial h') (ok_tl hst) RH
theorem aw_iinc_w {i : Nat} {n v : Int} (hd : decode md.2.1 pc = .ok (.iinc i n, 3)) (hl : ls[i]? = some (some (.inl v))) (kk : AW md d scr Q (pc + 3) (ls.set i (some (.inl (w (v + n))))) st h k) : AW md d scr Q pc ls st h k := by
  intro p l e R s m args below meth c b B D ca H locs lc Qw C hlen hH hL hst RH
  have hi : i < ls.length := (List.getElem?_eq_some_iff.mp hl).1
  obtain ⟨kx, hkx⟩ := List.getElem?_of_mem (lpr_mem (b := b) (B := B) ls 0 i _ hl)
  rw [Nat.zero_add] at hkx
  exact lv_iinc (v := Int32.ofInt (w (v + n))) C.1 C.2.1 hd hL.1 hkx (by rw [w_of, Int32.ofInt_add]) hi rfl fun ls' h' => kk p l e R s m args below meth c b B D ca H locs ls' Qw C (by rw [List.length_set]; exact hlen) hH (hL.set (v := .inl (w (v + n))) hi (w_rg _) h') hst RH
theorem aw_iinc {i : Nat} {n v : Int} (hd : decode md.2.1 pc = .ok (.iinc i n, 3)) (hl : ls[i]? = some (some (.inl v))) (hn : rg (v + n)) (kk : AW md d scr Q (pc + 3) (ls.set i (some (.inl (v + n)))) st h k) : AW md d scr Q pc ls st h k :=
  aw_iinc_w hd hl (by rw [w_id hn]; exact kk)
/-! numbers -/
def b2 (f : Int32 → Int32 → Int32) (x y : Int) : Int := (f (Int32.ofInt x) (Int32.ofInt y)).toInt
theorem b2_rg (f : Int32 → Int32 → Int32) (x y : Int) : rg (b2 f x y) := rg_of _
theorem b2_of (f : Int32 → Int32 → Int32) (x y : Int) : Int32.ofInt (b2 f x y) = f (Int32.ofInt x) (Int32.ofInt y) := Int32.ofInt_toInt _
def an (x y : Int) : Int := b2 (fun a b => a &&& b) x y
def orr (x y : Int) : Int := b2 (fun a b => a ||| b) x y
def xr (x y : Int) : Int := b2 (fun a b => a ^^^ b) x y
def sl (x y : Int) : Int := b2 (fun a b => a <<< (b &&& 31)) x y
def sr (x y : Int) : Int := b2 (fun a b => a >>> (b &&& 31)) x y
def dv (x y : Int) : Int := b2 (fun a b => a / b) x y
def rm (x y : Int) : Int := b2 (fun a b => a - a / b * b) x y
theorem aw_iadd_w {x y : Int} (hd : decode md.2.1 pc = .ok (.iadd, 1)) (kk : AW md d scr Q (pc + 1) ls (.inl (w (x + y)) :: st) h k) : AW md d scr Q pc ls (.inl y :: .inl x :: st) h k := by
  intro p l e R s m args below meth c b B D ca H locs lc Qw C hlen hH hL hst RH
  refine lv_iadd C.1 C.2.1 hd ?_
  have h1 := kk p l e R s m args below meth c b B D ca H locs lc Qw C hlen hH hL (ok_of (w_rg _) (ok_tl (ok_tl hst))) RH
  rw [← Int32.ofInt_add, ← w_of]
  exact h1
theorem aw_isub_w {x y : Int} (hd : decode md.2.1 pc = .ok (.isub, 1)) (kk : AW md d scr Q (pc + 1) ls (.inl (w (x - y)) :: st) h k) : AW md d scr Q pc ls (.inl y :: .inl x :: st) h k := by
  intro p l e R s m args below meth c b B D ca H locs lc Qw C hlen hH hL hst RH
  refine lv_isub C.1 C.2.1 hd ?_
  have h1 := kk p l e R s m args below meth c b B D ca H locs lc Qw C hlen hH hL (ok_of (w_rg _) (ok_tl (ok_tl hst))) RH
  rw [← Int32.ofInt_sub, ← w_of]
  exact h1
theorem aw_imul_w {x y : Int} (hd : decode md.2.1 pc = .ok (.imul, 1)) (kk : AW md d scr Q (pc + 1) ls (.inl (w (x * y)) :: st) h k) : AW md d scr Q pc ls (.inl y :: .inl x :: st) h k := by
  intro p l e R s m args below meth c b B D ca H locs lc Qw C hlen hH hL hst RH
  refine lv_imul C.1 C.2.1 hd ?_
  have h1 := kk p l e R s m args below meth c b B D ca H locs lc Qw C hlen hH hL (ok_of (w_rg _) (ok_tl (ok_tl hst))) RH
  rw [← Int32.ofInt_mul, ← w_of]
  exact h1
theorem aw_iadd {x y : Int} (hd : decode md.2.1 pc = .ok (.iadd, 1)) (hn : rg (x + y)) (kk : AW md d scr Q (pc + 1) ls (.inl (x + y) :: st) h k) : AW md d scr Q pc ls (.inl y :: .inl x :: st) h k := aw_iadd_w hd (by rw [w_id hn]; exact kk)
theorem aw_isub {x y : Int} (hd : decode md.2.1 pc = .ok (.isub, 1)) (hn : rg (x - y)) (kk : AW md d scr Q (pc + 1) ls (.inl (x - y) :: st) h k) : AW md d scr Q pc ls (.inl y :: .inl x :: st) h k := aw_isub_w hd (by rw [w_id hn]; exact kk)
theorem aw_imul {x y : Int} (hd : decode md.2.1 pc = .ok (.imul, 1)) (hn : rg (x * y)) (kk : AW md d scr Q (pc + 1) ls (.inl (x * y) :: st) h k) : AW md d scr Q pc ls (.inl y :: .inl x :: st) h k := aw_imul_w hd (by rw [w_id hn]; exact kk)
theorem aw_iand {x y : Int} (hd : decode md.2.1 pc = .ok (.iand, 1)) (kk : AW md d scr Q (pc + 1) ls (.inl (an x y) :: st) h k) : AW md d scr Q pc ls (.inl y :: .inl x :: st) h k := by
  intro p l e R s m args below meth c b B D ca H locs lc Qw C hlen hH hL hst RH
  refine lv_iand C.1 C.2.1 hd ?_
  have h1 := kk p l e R s m args below meth c b B D ca H locs lc Qw C hlen hH hL (ok_of (b2_rg _ _ _) (ok_tl (ok_tl hst))) RH
  rw [← b2_of (fun a b => a &&& b)]
  exact h1
theorem aw_ior {x y : Int} (hd : decode md.2.1 pc = .ok (.ior, 1)) (kk : AW md d scr Q (pc + 1) ls (.inl (orr x y) :: st) h k) : AW md d scr Q pc ls (.inl y :: .inl x :: st) h k := by
  intro p l e R s m args below meth c b B D ca H locs lc Qw C hlen hH hL hst RH
  refine lv_ior C.1 C.2.1 hd ?_
  have h1 := kk p l e R s m args below meth c b B D ca H locs lc Qw C hlen hH hL (ok_of (b2_rg _ _ _) (ok_tl (ok_tl hst))) RH
  rw [← b2_of (fun a b => a ||| b)]
  exact h1
theorem aw_ixor {x y : Int} (hd : decode md.2.1 pc = .ok (.ixor, 1)) (kk : AW md d scr Q (pc + 1) ls (.inl (xr x y) :: st) h k) : AW md d scr Q pc ls (.inl y :: .inl x :: st) h k := by
  intro p l e R s m args below meth c b B D ca H locs lc Qw C hlen hH hL hst RH
  refine lv_ixor C.1 C.2.1 hd ?_
  have h1 := kk p l e R s m args below meth c b B D ca H locs lc Qw C hlen hH hL (ok_of (b2_rg _ _ _) (ok_tl (ok_tl hst))) RH
  rw [← b2_of (fun a b => a ^^^ b)]
  exact h1
theorem aw_ishl {x y : Int} (hd : decode md.2.1 pc = .ok (.ishl, 1)) (kk : AW md d scr Q (pc + 1) ls (.inl (sl x y) :: st) h k) : AW md d scr Q pc ls (.inl y :: .inl x :: st) h k := by
  intro p l e R s m args below meth c b B D ca H locs lc Qw C hlen hH hL hst RH
  refine lv_ishl C.1 C.2.1 hd ?_
  have h1 := kk p l e R s m args below meth c b B D ca H locs lc Qw C hlen hH hL (ok_of (b2_rg _ _ _) (ok_tl (ok_tl hst))) RH
  rw [← b2_of (fun a b => a <<< (b &&& 31))]
  exact h1
theorem aw_ishr {x y : Int} (hd : decode md.2.1 pc = .ok (.ishr, 1)) (kk : AW md d scr Q (pc + 1) ls (.inl (sr x y) :: st) h k) : AW md d scr Q pc ls (.inl y :: .inl x :: st) h k := by
  intro p l e R s m args below meth c b B D ca H locs lc Qw C hlen hH hL hst RH
  refine lv_ishr C.1 C.2.1 hd ?_
  have h1 := kk p l e R s m args below meth c b B D ca H locs lc Qw C hlen hH hL (ok_of (b2_rg _ _ _) (ok_tl (ok_tl hst))) RH
  rw [← b2_of (fun a b => a >>> (b &&& 31))]
  exact h1
theorem ne0 {y : Int} (hy : rg y) (h : y ≠ 0) : ¬ Int32.ofInt y = 0 := by
  intro q
  apply h
  have := congrArg Int32.toInt q
  rw [ti hy] at this
  exact this
theorem aw_idiv {x y : Int} (hd : decode md.2.1 pc = .ok (.idiv, 1)) (hy : y ≠ 0) (kk : AW md d scr Q (pc + 1) ls (.inl (dv x y) :: st) h k) : AW md d scr Q pc ls (.inl y :: .inl x :: st) h k := by
  intro p l e R s m args below meth c b B D ca H locs lc Qw C hlen hH hL hst RH
  refine lv_idiv C.1 C.2.1 hd (ne0 (ok_hd hst) hy) ?_
  have h1 := kk p l e R s m args below meth c b B D ca H locs lc Qw C hlen hH hL (ok_of (b2_rg _ _ _) (ok_tl (ok_tl hst))) RH
  rw [← b2_of (fun a b => a / b)]
  exact h1
theorem aw_irem {x y : Int} (hd : decode md.2.1 pc = .ok (.irem, 1)) (hy : y ≠ 0) (kk : AW md d scr Q (pc + 1) ls (.inl (rm x y) :: st) h k) : AW md d scr Q pc ls (.inl y :: .inl x :: st) h k := by
  intro p l e R s m args below meth c b B D ca H locs lc Qw C hlen hH hL hst RH
  refine lv_irem C.1 C.2.1 hd (ne0 (ok_hd hst) hy) ?_
  have h1 := kk p l e R s m args below meth c b B D ca H locs lc Qw C hlen hH hL (ok_of (b2_rg _ _ _) (ok_tl (ok_tl hst))) RH
  rw [← b2_of (fun a b => a - a / b * b)]
  exact h1
theorem aw_i2c {x : Int} (hd : decode md.2.1 pc = .ok (.i2c, 1)) (kk : ∀ y, 0 ≤ y → y < 65536 → y = x % 65536 → AW md d scr Q (pc + 1) ls (.inl y :: st) h k) : AW md d scr Q pc ls (.inl x :: st) h k := by
  intro p l e R s m args below meth c b B D ca H locs lc Qw C hlen hH hL hst RH
  have hx : rg x := ok_hd hst
  refine lv_i2c (v := Int32.ofInt (x % 65536)) C.1 C.2.1 hd ?_ ?_
  · rw [pk_char]
    apply Int32.toInt_inj.mp
    rw [ti ⟨by omega, by omega⟩, nI_toInt (by omega)]
    have h2 : (Int32.ofInt x).toBitVec = BitVec.ofInt 32 x := rfl
    rw [h2, BitVec.toNat_ofInt]
    omega
  · exact kk (x % 65536) (by omega) (by omega) rfl p l e R s m args below meth c b B D ca H locs lc Qw C hlen hH hL (ok_of ⟨by omega, by omega⟩ (ok_tl hst)) RH
/-! the stack -/
theorem aw_dup {v : AV} (hd : decode md.2.1 pc = .ok (.dup, 1)) (kk : AW md d scr Q (pc + 1) ls (v :: v :: st) h k) : AW md d scr Q pc ls (v :: st) h k := by
  intro p l e R s m args below meth c b B D ca H locs lc Qw C hlen hH hL hst RH
  exact lv_dup C.1 C.2.1 hd (cv_cat v) (kk p l e R s m args below meth c b B D ca H locs lc Qw C hlen hH hL (ok_of (ok_hd hst) hst) RH)
theorem aw_pop {v : AV} (hd : decode md.2.1 pc = .ok (.pop, 1)) (kk : AW md d scr Q (pc + 1) ls st h k) : AW md d scr Q pc ls (v :: st) h k := by
  intro p l e R s m args below meth c b B D ca H locs lc Qw C hlen hH hL hst RH
  exact lv_pop C.1 C.2.1 hd (cv_cat v) (kk p l e R s m args below meth c b B D ca H locs lc Qw C hlen hH hL (ok_tl hst) RH)
theorem aw_dup2 {v u : AV} (hd : decode md.2.1 pc = .ok (.dup2, 1)) (kk : AW md d scr Q (pc + 1) ls (v :: u :: v :: u :: st) h k) : AW md d scr Q pc ls (v :: u :: st) h k := by
  intro p l e R s m args below meth c b B D ca H locs lc Qw C hlen hH hL hst RH
  exact lv_dup2_11 C.1 C.2.1 hd (cv_cat v) (cv_cat u) (kk p l e R s m args below meth c b B D ca H locs lc Qw C hlen hH hL (ok_of (ok_hd hst) (ok_of (ok_hd (ok_tl hst)) hst)) RH)
/-! branches -/
theorem i_lt {x y : Int} (hx : rg x) (hy : rg y) : Int32.ofInt x < Int32.ofInt y ↔ x < y := by rw [Int32.lt_iff_toInt_lt, ti hx, ti hy]
theorem i_le {x y : Int} (hx : rg x) (hy : rg y) : Int32.ofInt x ≤ Int32.ofInt y ↔ x ≤ y := by rw [Int32.le_iff_toInt_le, ti hx, ti hy]
theorem i_eq {x y : Int} (hx : rg x) (hy : rg y) : Int32.ofInt x = Int32.ofInt y ↔ x = y := ⟨fun q => by have := congrArg Int32.toInt q; rw [ti hx, ti hy] at this; exact this, fun q => by rw [q]⟩
theorem rg0 : rg 0 := by decide
theorem aw_goto {off : Int} {tgt : Nat} (hd : decode md.2.1 pc = .ok (.goto off, 3)) (ht : (pc : Int) + off = (tgt : Int)) (kk : AW md d scr Q tgt ls st h k) : AW md d scr Q pc ls st h k := by
  intro p l e R s m args below meth c b B D ca H locs lc Qw C hlen hH hL hst RH
  exact lv_goto C.1 C.2.1 hd ht (kk p l e R s m args below meth c b B D ca H locs lc Qw C hlen hH hL hst RH)
theorem aw_icmp_eq {x y off : Int} {tgt : Nat} (hd : decode md.2.1 pc = .ok (.if_icmp .eq off, 3)) (ht : (pc : Int) + off = (tgt : Int)) (kt : x = y → AW md d scr Q tgt ls st h k) (kf : ¬ (x = y) → AW md d scr Q (pc + 3) ls st h k) : AW md d scr Q pc ls (.inl y :: .inl x :: st) h k := by
  intro p l e R s m args below meth c b B D ca H locs lc Qw C hlen hH hL hst RH
  have hy : rg y := ok_hd hst
  have hx : rg x := ok_hd (ok_tl hst)
  have hi := i_eq hx hy
  have hst2 := ok_tl (ok_tl hst)
  by_cases hc : x = y
  · exact lv_icmp_eq C.1 C.2.1 hd ht (fun _ => kt hc p l e R s m args below meth c b B D ca H locs lc Qw C hlen hH hL hst2 RH) (fun q => absurd (hi.mpr hc) q)
  · exact lv_icmp_eq C.1 C.2.1 hd ht (fun q => absurd (hi.mp q) hc) (fun _ => kf hc p l e R s m args below meth c b B D ca H locs lc Qw C hlen hH hL hst2 RH)
theorem aw_if_eq {x off : Int} {tgt : Nat} (hd : decode md.2.1 pc = .ok (.ifCond .eq off, 3)) (ht : (pc : Int) + off = (tgt : Int)) (kt : x = 0 → AW md d scr Q tgt ls st h k) (kf : ¬ (x = 0) → AW md d scr Q (pc + 3) ls st h k) : AW md d scr Q pc ls (.inl x :: st) h k := by
  intro p l e R s m args below meth c b B D ca H locs lc Qw C hlen hH hL hst RH
  have hx : rg x := ok_hd hst
  have hi := i_eq hx rg0
  have hst2 := ok_tl hst
  by_cases hc : x = 0
  · exact lv_if_eq C.1 C.2.1 hd ht (fun _ => kt hc p l e R s m args below meth c b B D ca H locs lc Qw C hlen hH hL hst2 RH) (fun q => absurd (hi.mpr hc) q)
  · exact lv_if_eq C.1 C.2.1 hd ht (fun q => absurd (hi.mp q) hc) (fun _ => kf hc p l e R s m args below meth c b B D ca H locs lc Qw C hlen hH hL hst2 RH)
theorem aw_icmp_ne {x y off : Int} {tgt : Nat} (hd : decode md.2.1 pc = .ok (.if_icmp .ne off, 3)) (ht : (pc : Int) + off = (tgt : Int)) (kt : ¬ x = y → AW md d scr Q tgt ls st h k) (kf : ¬ (¬ x = y) → AW md d scr Q (pc + 3) ls st h k) : AW md d scr Q pc ls (.inl y :: .inl x :: st) h k := by
  intro p l e R s m args below meth c b B D ca H locs lc Qw C hlen hH hL hst RH
  have hy : rg y := ok_hd hst
  have hx : rg x := ok_hd (ok_tl hst)
  have hi := i_eq hx hy
  have hst2 := ok_tl (ok_tl hst)
  by_cases hc : ¬ x = y
  · exact lv_icmp_ne C.1 C.2.1 hd ht (fun _ => kt hc p l e R s m args below meth c b B D ca H locs lc Qw C hlen hH hL hst2 RH) (fun q => absurd (hi.mp q) hc)
  · exact lv_icmp_ne C.1 C.2.1 hd ht (fun q => absurd (fun z => q (hi.mpr z)) hc) (fun _ => kf hc p l e R s m args below meth c b B D ca H locs lc Qw C hlen hH hL hst2 RH)
theorem aw_if_ne {x off : Int} {tgt : Nat} (hd : decode md.2.1 pc = .ok (.ifCond .ne off, 3)) (ht : (pc : Int) + off = (tgt : Int)) (kt : ¬ x = 0 → AW md d scr Q tgt ls st h k) (kf : ¬ (¬ x = 0) → AW md d scr Q (pc + 3) ls st h k) : AW md d scr Q pc ls (.inl x :: st) h k := by
  intro p l e R s m args below meth c b B D ca H locs lc Qw C hlen hH hL hst RH
  have hx : rg x := ok_hd hst
  have hi := i_eq hx rg0
  have hst2 := ok_tl hst
  by_cases hc : ¬ x = 0
  · exact lv_if_ne C.1 C.2.1 hd ht (fun _ => kt hc p l e R s m args below meth c b B D ca H locs lc Qw C hlen hH hL hst2 RH) (fun q => absurd (hi.mp q) hc)
  · exact lv_if_ne C.1 C.2.1 hd ht (fun q => absurd (fun z => q (hi.mpr z)) hc) (fun _ => kf hc p l e R s m args below meth c b B D ca H locs lc Qw C hlen hH hL hst2 RH)
theorem aw_icmp_lt {x y off : Int} {tgt : Nat} (hd : decode md.2.1 pc = .ok (.if_icmp .lt off, 3)) (ht : (pc : Int) + off = (tgt : Int)) (kt : x < y → AW md d scr Q tgt ls st h k) (kf : ¬ (x < y) → AW md d scr Q (pc + 3) ls st h k) : AW md d scr Q pc ls (.inl y :: .inl x :: st) h k := by
  intro p l e R s m args below meth c b B D ca H locs lc Qw C hlen hH hL hst RH
  have hy : rg y := ok_hd hst
  have hx : rg x := ok_hd (ok_tl hst)
  have hi := i_lt hx hy
  have hst2 := ok_tl (ok_tl hst)
  by_cases hc : x < y
  · exact lv_icmp_lt C.1 C.2.1 hd ht (fun _ => kt hc p l e R s m args below meth c b B D ca H locs lc Qw C hlen hH hL hst2 RH) (fun q => absurd (hi.mpr hc) q)
  · exact lv_icmp_lt C.1 C.2.1 hd ht (fun q => absurd (hi.mp q) hc) (fun _ => kf hc p l e R s m args below meth c b B D ca H locs lc Qw C hlen hH hL hst2 RH)
theorem aw_if_lt {x off : Int} {tgt : Nat} (hd : decode md.2.1 pc = .ok (.ifCond .lt off, 3)) (ht : (pc : Int) + off = (tgt : Int)) (kt : x < 0 → AW md d scr Q tgt ls st h k) (kf : ¬ (x < 0) → AW md d scr Q (pc + 3) ls st h k) : AW md d scr Q pc ls (.inl x :: st) h k := by
  intro p l e R s m args below meth c b B D ca H locs lc Qw C hlen hH hL hst RH
  have hx : rg x := ok_hd hst
  have hi := i_lt hx rg0
  have hst2 := ok_tl hst
  by_cases hc : x < 0
  · exact lv_if_lt C.1 C.2.1 hd ht (fun _ => kt hc p l e R s m args below meth c b B D ca H locs lc Qw C hlen hH hL hst2 RH) (fun q => absurd (hi.mpr hc) q)
  · exact lv_if_lt C.1 C.2.1 hd ht (fun q => absurd (hi.mp q) hc) (fun _ => kf hc p l e R s m args below meth c b B D ca H locs lc Qw C hlen hH hL hst2 RH)
theorem aw_icmp_ge {x y off : Int} {tgt : Nat} (hd : decode md.2.1 pc = .ok (.if_icmp .ge off, 3)) (ht : (pc : Int) + off = (tgt : Int)) (kt : y ≤ x → AW md d scr Q tgt ls st h k) (kf : ¬ (y ≤ x) → AW md d scr Q (pc + 3) ls st h k) : AW md d scr Q pc ls (.inl y :: .inl x :: st) h k := by
  intro p l e R s m args below meth c b B D ca H locs lc Qw C hlen hH hL hst RH
  have hy : rg y := ok_hd hst
  have hx : rg x := ok_hd (ok_tl hst)
  have hi := i_le hy hx
  have hst2 := ok_tl (ok_tl hst)
  by_cases hc : y ≤ x
  · exact lv_icmp_ge C.1 C.2.1 hd ht (fun _ => kt hc p l e R s m args below meth c b B D ca H locs lc Qw C hlen hH hL hst2 RH) (fun q => absurd (hi.mpr hc) q)
  · exact lv_icmp_ge C.1 C.2.1 hd ht (fun q => absurd (hi.mp q) hc) (fun _ => kf hc p l e R s m args below meth c b B D ca H locs lc Qw C hlen hH hL hst2 RH)
theorem aw_if_ge {x off : Int} {tgt : Nat} (hd : decode md.2.1 pc = .ok (.ifCond .ge off, 3)) (ht : (pc : Int) + off = (tgt : Int)) (kt : 0 ≤ x → AW md d scr Q tgt ls st h k) (kf : ¬ (0 ≤ x) → AW md d scr Q (pc + 3) ls st h k) : AW md d scr Q pc ls (.inl x :: st) h k := by
  intro p l e R s m args below meth c b B D ca H locs lc Qw C hlen hH hL hst RH
  have hx : rg x := ok_hd hst
  have hi := i_le rg0 hx
  have hst2 := ok_tl hst
  by_cases hc : 0 ≤ x
  · exact lv_if_ge C.1 C.2.1 hd ht (fun _ => kt hc p l e R s m args below meth c b B D ca H locs lc Qw C hlen hH hL hst2 RH) (fun q => absurd (hi.mpr hc) q)
  · exact lv_if_ge C.1 C.2.1 hd ht (fun q => absurd (hi.mp q) hc) (fun _ => kf hc p l e R s m args below meth c b B D ca H locs lc Qw C hlen hH hL hst2 RH)
theorem aw_icmp_gt {x y off : Int} {tgt : Nat} (hd : decode md.2.1 pc = .ok (.if_icmp .gt off, 3)) (ht : (pc : Int) + off = (tgt : Int)) (kt : y < x → AW md d scr Q tgt ls st h k) (kf : ¬ (y < x) → AW md d scr Q (pc + 3) ls st h k) : AW md d scr Q pc ls (.inl y :: .inl x :: st) h k := by
  intro p l e R s m args below meth c b B D ca H locs lc Qw C hlen hH hL hst RH
  have hy : rg y := ok_hd hst
  have hx : rg x := ok_hd (ok_tl hst)
  have hi := i_lt hy hx
  have hst2 := ok_tl (ok_tl hst)
  by_cases hc : y < x
  · exact lv_icmp_gt C.1 C.2.1 hd ht (fun _ => kt hc p l e R s m args below meth c b B D ca H locs lc Qw C hlen hH hL hst2 RH) (fun q => absurd (hi.mpr hc) q)
  · exact lv_icmp_gt C.1 C.2.1 hd ht (fun q => absurd (hi.mp q) hc) (fun _ => kf hc p l e R s m args below meth c b B D ca H locs lc Qw C hlen hH hL hst2 RH)
theorem aw_if_gt {x off : Int} {tgt : Nat} (hd : decode md.2.1 pc = .ok (.ifCond .gt off, 3)) (ht : (pc : Int) + off = (tgt : Int)) (kt : 0 < x → AW md d scr Q tgt ls st h k) (kf : ¬ (0 < x) → AW md d scr Q (pc + 3) ls st h k) : AW md d scr Q pc ls (.inl x :: st) h k := by
  intro p l e R s m args below meth c b B D ca H locs lc Qw C hlen hH hL hst RH
  have hx : rg x := ok_hd hst
  have hi := i_lt rg0 hx
  have hst2 := ok_tl hst
  by_cases hc : 0 < x
  · exact lv_if_gt C.1 C.2.1 hd ht (fun _ => kt hc p l e R s m args below meth c b B D ca H locs lc Qw C hlen hH hL hst2 RH) (fun q => absurd (hi.mpr hc) q)
  · exact lv_if_gt C.1 C.2.1 hd ht (fun q => absurd (hi.mp q) hc) (fun _ => kf hc p l e R s m args below meth c b B D ca H locs lc Qw C hlen hH hL hst2 RH)
theorem aw_icmp_le {x y off : Int} {tgt : Nat} (hd : decode md.2.1 pc = .ok (.if_icmp .le off, 3)) (ht : (pc : Int) + off = (tgt : Int)) (kt : x ≤ y → AW md d scr Q tgt ls st h k) (kf : ¬ (x ≤ y) → AW md d scr Q (pc + 3) ls st h k) : AW md d scr Q pc ls (.inl y :: .inl x :: st) h k := by
  intro p l e R s m args below meth c b B D ca H locs lc Qw C hlen hH hL hst RH
  have hy : rg y := ok_hd hst
  have hx : rg x := ok_hd (ok_tl hst)
  have hi := i_le hx hy
  have hst2 := ok_tl (ok_tl hst)
  by_cases hc : x ≤ y
  · exact lv_icmp_le C.1 C.2.1 hd ht (fun _ => kt hc p l e R s m args below meth c b B D ca H locs lc Qw C hlen hH hL hst2 RH) (fun q => absurd (hi.mpr hc) q)
  · exact lv_icmp_le C.1 C.2.1 hd ht (fun q => absurd (hi.mp q) hc) (fun _ => kf hc p l e R s m args below meth c b B D ca H locs lc Qw C hlen hH hL hst2 RH)
theorem aw_if_le {x off : Int} {tgt : Nat} (hd : decode md.2.1 pc = .ok (.ifCond .le off, 3)) (ht : (pc : Int) + off = (tgt : Int)) (kt : x ≤ 0 → AW md d scr Q tgt ls st h k) (kf : ¬ (x ≤ 0) → AW md d scr Q (pc + 3) ls st h k) : AW md d scr Q pc ls (.inl x :: st) h k := by
  intro p l e R s m args below meth c b B D ca H locs lc Qw C hlen hH hL hst RH
  have hx : rg x := ok_hd hst
  have hi := i_le hx rg0
  have hst2 := ok_tl hst
  by_cases hc : x ≤ 0
  · exact lv_if_le C.1 C.2.1 hd ht (fun _ => kt hc p l e R s m args below meth c b B D ca H locs lc Qw C hlen hH hL hst2 RH) (fun q => absurd (hi.mpr hc) q)
  · exact lv_if_le C.1 C.2.1 hd ht (fun q => absurd (hi.mp q) hc) (fun _ => kf hc p l e R s m args below meth c b B D ca H locs lc Qw C hlen hH hL hst2 RH)
theorem aw_ifnull {r : Option Nat} {off : Int} {tgt : Nat} (hd : decode md.2.1 pc = .ok (.ifnull off, 3)) (ht : (pc : Int) + off = (tgt : Int)) (kt : r = none → AW md d scr Q tgt ls st h k) (kf : r ≠ none → AW md d scr Q (pc + 3) ls st h k) : AW md d scr Q pc ls (.inr r :: st) h k := by
  intro p l e R s m args below meth c b B D ca H locs lc Qw C hlen hH hL hst RH
  cases r with
  | none => exact lv_ifnullN C.1 C.2.1 hd ht (kt rfl p l e R s m args below meth c b B D ca H locs lc Qw C hlen hH hL (ok_tl hst) RH)
  | some j => exact lv_ifnull C.1 C.2.1 hd (kf (fun q => by cases q) p l e R s m args below meth c b B D ca H locs lc Qw C hlen hH hL (ok_tl hst) RH)
theorem aw_ifnonnull {r : Option Nat} {off : Int} {tgt : Nat} (hd : decode md.2.1 pc = .ok (.ifnonnull off, 3)) (ht : (pc : Int) + off = (tgt : Int)) (kt : r ≠ none → AW md d scr Q tgt ls st h k) (kf : r = none → AW md d scr Q (pc + 3) ls st h k) : AW md d scr Q pc ls (.inr r :: st) h k := by
  intro p l e R s m args below meth c b B D ca H locs lc Qw C hlen hH hL hst RH
  cases r with
  | none => exact lv_ifnonnullN C.1 C.2.1 hd (kf rfl p l e R s m args below meth c b B D ca H locs lc Qw C hlen hH hL (ok_tl hst) RH)
  | some j => exact lv_ifnonnull C.1 C.2.1 hd ht (kt (fun q => by cases q) p l e R s m args below meth c b B D ca H locs lc Qw C hlen hH hL (ok_tl hst) RH)
theorem aw_tblOut {dflt lo hi x : Int} {offs : Array Int} {len tgt : Nat} (hd : decode md.2.1 pc = .ok (.tableswitch dflt lo hi offs, len)) (hx : x < lo ∨ hi < x) (ht : (pc : Int) + dflt = (tgt : Int)) (kk : AW md d scr Q tgt ls st h k) : AW md d scr Q pc ls (.inl x :: st) h k := by
  intro p l e R s m args below meth c b B D ca H locs lc Qw C hlen hH hL hst RH
  exact lv_tableOut C.1 C.2.1 hd (by rw [ti (ok_hd hst)]; exact hx) ht (kk p l e R s m args below meth c b B D ca H locs lc Qw C hlen hH hL (ok_tl hst) RH)
theorem aw_tblIn {dflt lo hi x off : Int} {offs : Array Int} {len tgt : Nat} (hd : decode md.2.1 pc = .ok (.tableswitch dflt lo hi offs, len)) (h1 : lo ≤ x) (h2 : x ≤ hi) (ho : offs[(x - lo).toNat]? = some off) (ht : (pc : Int) + off = (tgt : Int)) (kk : AW md d scr Q tgt ls st h k) : AW md d scr Q pc ls (.inl x :: st) h k := by
  intro p l e R s m args below meth c b B D ca H locs lc Qw C hlen hH hL hst RH
  have hx : (Int32.ofInt x).toInt = x := ti (ok_hd hst)
  exact lv_tableIn C.1 C.2.1 hd (by rw [hx]; omega) (by rw [hx]; omega) (by rw [hx]; exact ho) ht (kk p l e R s m args below meth c b B D ca H locs lc Qw C hlen hH hL (ok_tl hst) RH)
theorem aw_lookup {dflt x off : Int} {ps : Array (Int × Int)} {len tgt : Nat} (hd : decode md.2.1 pc = .ok (.lookupswitch dflt ps, len)) (hp : (ps.toList.zip (ps.toList.drop 1)).all (fun (a, next) => a.1 < next.1) = true) (ho : Op.lookupswitch.offset ps.toList dflt x = off) (ht : (pc : Int) + off = (tgt : Int)) (kk : AW md d scr Q tgt ls st h k) : AW md d scr Q pc ls (.inl x :: st) h k := by
  intro p l e R s m args below meth c b B D ca H locs lc Qw C hlen hH hL hst RH
  have hx : (Int32.ofInt x).toInt = x := ti (ok_hd hst)
  exact lv_lookup C.1 C.2.1 hd hp (by rw [hx]; exact ho) ht (kk p l e R s m args below meth c b B D ca H locs lc Qw C hlen hH hL (ok_tl hst) RH)
theorem aw_okH (kk : okH h → AW md d scr Q pc ls st h k) : AW md d scr Q pc ls st h k := by
  intro p l e R s m args below meth c b B D ca H locs lc Qw C hlen hH hL hst RH
  exact kk hH.1.2.2 p l e R s m args below meth c b B D ca H locs lc Qw C hlen hH hL hst RH
theorem aw_okl (kk : (∀ (i : Nat) (v : AV), ls[i]? = some (some v) → ok v) → AW md d scr Q pc ls st h k) : AW md d scr Q pc ls st h k := by
  intro p l e R s m args below meth c b B D ca H locs lc Qw C hlen hH hL hst RH
  exact kk hL.2 p l e R s m args below meth c b B D ca H locs lc Qw C hlen hH hL hst RH
end RU
end
section
section HE
variable {md : MD} {d : Nat} {scr : Option (Nat × (Nat → Int))} {Q : Option Int → AH → Prop} {pc : Nat} {ls : List (Option AV)} {st : List AV} {h : AH} {k : Nat × Nat}
theorem okH_pos {h : AH} (ho : okH h) {j : Nat} {x : Nat × Nat} (hx : hk h j = x) (hn : x ≠ (9, 0)) : ∃ i, j = i + 1 ∧ i < h.1 := by
  cases j with
  | zero => exact absurd (hx.symm.trans ho.2.1) hn
  | succ i =>
    refine ⟨i, rfl, ?_⟩
    rcases Nat.lt_or_ge h.1 (i + 1) with q | q
    · exact absurd (hx.symm.trans (ho.2.2.1 _ q)) hn
    · omega
theorem enc_o {b B : Nat} {ca : Nat → ClassId} {h : AH} {j ci : Nat} (hx : hk h j = (0, ci)) : enc b B ca h j = .inr (ci, (List.range (cN ci)).map (fvl b B h j ci)) := by simp [enc, hx]
theorem enc_1 {b B : Nat} {ca : Nat → ClassId} {h : AH} {j n : Nat} (hx : hk h j = (1, n)) : enc b B ca h j = .inl (ca 1, n, .inl fun k => Int32.ofInt (hi h j k)) := by simp [enc, hx]
theorem enc_2 {b B : Nat} {ca : Nat → ClassId} {h : AH} {j n : Nat} (hx : hk h j = (2, n)) : enc b B ca h j = .inl (ca 2, n, .inl fun k => Int32.ofInt (hi h j k)) := by simp [enc, hx]
theorem enc_3 {b B : Nat} {ca : Nat → ClassId} {h : AH} {j n : Nat} (hx : hk h j = (3, n)) : enc b B ca h j = .inl (ca 3, n, .inl fun k => Int32.ofInt (hi h j k)) := by simp [enc, hx]
theorem enc_4 {b B : Nat} {ca : Nat → ClassId} {h : AH} {j n : Nat} (hx : hk h j = (4, n)) : enc b B ca h j = .inl (ca 4, n, .inr (.inr (.inr (.inr fun k => (hr h j k).map (az b B))))) := by simp [enc, hx]
theorem fs_at {n k : Nat} {f : Nat → Value} (hk : k < n) : ((List.range n).map f)[k]? = some (f k) := by simp [hk]
theorem aw_getv {idx ci kf j : Nat} (hd : decode md.2.1 pc = .ok (.getfield idx, 3)) (hl : Cond.fieldLink md.1.cls idx (cU ci kf).1 (cU ci kf).2.1 (cU ci kf).2.2.1 ∈ tbG) (hkf : kf < cN ci) (hx : hk h j = (0, ci)) {v : AV} (hv : ∀ b B, fvl b B h j ci kf = cv b B v) (hok : okH h → ok v)
    (kk : AW md d scr Q (pc + 3) ls (v :: st) h k) : AW md d scr Q pc ls (.inr (some j) :: st) h k := by
  intro p l e R s m args below meth c b B D ca H locs lc Qw C hlen hH hL hst RH
  obtain ⟨hsz, hP, ho⟩ := hH.1
  obtain ⟨i, rfl, hj⟩ := okH_pos ho hx (by intro q; cases q)
  have hci := ho.2.2.2 _ _ hx
  have he := wso_at (b := b) (B := B) (ca := ca) hj
  rw [enc_o hx] at he
  refine va_get (D := D) (v := cv b B v) C.1 C.2.1 C.2.2.2.2.1 (cl_words hci) C.2.2.2.1 C.2.2.2.2.2.2.1 hP i he (cl_at hci) kf hkf (C.2.2.2.2.1 _ hl) (fun _ h9 => h9) ?_ hd ?_
  · rw [fs_at hkf, hv]
  · exact kk p l e R s m args below meth c b B D ca H locs lc Qw C hlen hH hL (ok_of (hok ho) (ok_tl hst)) RH
theorem aw_geti {idx ci kf j : Nat} (hd : decode md.2.1 pc = .ok (.getfield idx, 3)) (hl : Cond.fieldLink md.1.cls idx (cU ci kf).1 (cU ci kf).2.1 (cU ci kf).2.2.1 ∈ tbG) (hkf : kf < cN ci) (hT : isR (cT ci kf) = false) (hx : hk h j = (0, ci))
    (kk : AW md d scr Q (pc + 3) ls (.inl (hi h j kf) :: st) h k) : AW md d scr Q pc ls (.inr (some j) :: st) h k :=
  aw_getv (v := .inl (hi h j kf)) hd hl hkf hx (fun b B => by simp [fvl, hT, cv]) (fun ho => ho.1 j kf) kk
theorem aw_getr {idx ci kf j : Nat} (hd : decode md.2.1 pc = .ok (.getfield idx, 3)) (hl : Cond.fieldLink md.1.cls idx (cU ci kf).1 (cU ci kf).2.1 (cU ci kf).2.2.1 ∈ tbG) (hkf : kf < cN ci) (hT : isR (cT ci kf) = true) (hx : hk h j = (0, ci)) {r : Option Nat} (hr0 : hr h j kf = r)
    (kk : AW md d scr Q (pc + 3) ls (.inr r :: st) h k) : AW md d scr Q pc ls (.inr (some j) :: st) h k :=
  aw_getv (v := .inr r) hd hl hkf hx (fun b B => by simp [fvl, hT, cv, hr0]) (fun _ => trivial) kk
theorem okH_up {h : AH} {j : Nat} {x v : Int} (ho : okH h) (hv : rg v) : okH (up h j x v) := by
  refine ⟨fun a b => ?_, ho.2.1, ho.2.2.1, ho.2.2.2⟩
  rw [hi_up]
  split
  · exact hv
  · exact ho.1 a b
theorem okH_ur {h : AH} {j : Nat} {x : Int} {v : Option Nat} (ho : okH h) : okH (ur h j x v) := ⟨ho.1, ho.2.1, ho.2.2.1, ho.2.2.2⟩
theorem enc_up {b B : Nat} {ca : Nat → ClassId} {h : AH} {j : Nat} {x v : Int} : ∀ i, i ≠ j → enc b B ca (up h j x v) i = enc b B ca h i := by
  intro i hi'
  refine enc_cong rfl (fun _ => rfl) (fun k => ?_)
  rw [hi_up, if_neg (fun q => hi' q.1)]
theorem enc_ur {b B : Nat} {ca : Nat → ClassId} {h : AH} {j : Nat} {x : Int} {v : Option Nat} : ∀ i, i ≠ j → enc b B ca (ur h j x v) i = enc b B ca h i := by
  intro i hi'
  refine enc_cong rfl (fun k => ?_) (fun _ => rfl)
  rw [hr_ur, if_neg (fun q => hi' q.1)]
theorem fs_set {n k : Nat} {f g : Nat → Value} (hk : k < n) (hg : ∀ i, i ≠ k → g i = f i) : ((List.range n).map f).set k (g k) = (List.range n).map g := by
  apply List.ext_getElem?
  intro i
  by_cases hik : i = k
  · subst hik
    rw [List.getElem?_set_self (by simpa using hk), fs_at hk]
  · rw [List.getElem?_set_ne (Ne.symm hik)]
    by_cases hi : i < n
    · rw [fs_at hi, fs_at hi, hg i hik]
    · rw [List.getElem?_eq_none (by simp; omega), List.getElem?_eq_none (by simp; omega)]
/-- a field is written: h' is h with another value at (j, kf) -/
theorem aw_putv {idx ci kf j : Nat} {v : AV} {h' : AH} (hd : decode md.2.1 pc = .ok (.putfield idx, 3)) (hl : Cond.fieldLink md.1.cls idx (cU ci kf).1 (cU ci kf).2.1 (cU ci kf).2.2.1 ∈ tbG) (hkf : kf < cN ci) (hx : hk h j = (0, ci))
    (hfin : (cU ci kf).2.2.2 = false ∨ ((cU ci kf).2.2.2 = true ∧ md.1.name = "<init>" ∧ (cU ci kf).1 = md.1.cls)) (hnar : ∀ b B, narrow (cT ci kf) (cv b B v) = cv b B v) (hfit : ∀ b B, fits (cT ci kf) (cv b B v) = true)
    (hn' : h'.1 = h.1) (hk' : hk h' = hk h) (ho' : okH h → okH h') (he' : ∀ b B ca i, i ≠ j → enc b B ca h' i = enc b B ca h i) (hv : ∀ b B, fvl b B h' j ci kf = cv b B v) (hv' : ∀ b B i, i ≠ kf → fvl b B h' j ci i = fvl b B h j ci i)
    (kk : AW md d scr Q (pc + 3) ls st h' k) : AW md d scr Q pc ls (v :: .inr (some j) :: st) h k := by
  intro p l e R s m args below meth c b B D ca H locs lc Qw C hlen hH hL hst RH
  obtain ⟨⟨hsz, hP, ho⟩, hS⟩ := hH
  obtain ⟨i, rfl, hj⟩ := okH_pos ho hx (by intro q; cases q)
  have hci := ho.2.2.2 _ _ hx
  have he := wso_at (b := b) (B := B) (ca := ca) hj
  rw [enc_o hx] at he
  have hl' : kf < ((List.range (cN ci)).map (fvl b B h (i + 1) ci)).length := by simpa using hkf
  have key : ∀ (H1 : Heap) (locs1 : List Loc), va_P D vwCl ((wso b B ca h).set i (B + i, .inr (ci, ((List.range (cN ci)).map (fvl b B h (i + 1) ci)).set kf (cv b B v)))) H1 → va_D (fun q => B ≤ q) ((wso b B ca h).set i (B + i, .inr (ci, ((List.range (cN ci)).map (fvl b B h (i + 1) ci)).set kf (cv b B v)))) → va_S (fun q => B ≤ q) s.heap H1 locs1 → H1.size = H.size → W p l e R s m args below meth c H1 locs1 k.1 k.2 Qw (F0 m (pc + 3) lc (st.map (cv b B))) := by
    intro H1 locs1 h1 _ h3 h4
    have e1 : enc b B ca h' (i + 1) = .inr (ci, ((List.range (cN ci)).map (fvl b B h (i + 1) ci)).set kf (cv b B v)) := by
      rw [enc_o (by rw [hk']; exact hx), ← hv b B, fs_set hkf (hv' b B)]
    rw [← e1, wso_set hj hn' (he' b B ca)] at h1
    exact kk p l e R s m args below meth c b B D ca H1 locs1 lc Qw C hlen ⟨⟨by rw [h4, hn']; exact hsz, h1, ho' ho⟩, h3⟩ hL (ok_tl (ok_tl hst)) RH
  have hsize : ∀ (H1 : Heap) (X : va_W), va_P D vwCl X H1 → True := fun _ _ _ => trivial
  obtain ⟨r, h1, cell, q1, q2, q3, q4⟩ := hP i _ he
  have hr : r = (cR ci, cU ci, cN ci) := Option.some.inj (h1.symm.trans (cl_at hci))
  subst hr
  have hK := C.2.2.2.2.2.2.1
  have hts := C.2.2.2.2.1
  have hap := va_apart (own := md.1.cls) hts (cl_words hci) (cT ci) (cl_ty hci) (cl_nm hci) hK (cl_at hci)
  obtain ⟨hSl, hfc, kC, hkC, hkind⟩ := hK.1 ci _ (cl_at hci)
  obtain ⟨cf, kx, fi, f, hfi, hsl⟩ := hSl kf hkf
  have hlay := hts _ (cl_words hci _ (u_in_lay hkf))
  unfold u_lay at hlay
  have hst' := (u_facts hfc hkC (u_lays hts (cl_words hci) hkf) hfi).1
  rcases hfin with hfin | ⟨hfin, hin2, hdecl⟩
  · rw [if_neg (by rw [hfin]; decide)] at hlay
    have h6 := u_store hfc hkC hkind hlay hfi (cl_ty hci kf hkf) (hnar b B) (hfit b B)
    refine W.putK C.1 C.2.1 (f := f) ⟨C.2.2.2.1, hts _ hl, ⟨_, _, _, hfi⟩, hst'⟩ (by rw [q2]; exact h6) q1 q3 (by rw [hsl]; exact k2_hasslot (q4 kf hkf)) rfl rfl hd fun H' e1 e2 e3 => ?_
    rw [hsl] at e1 ⊢
    exact key H' _ (hP.set wso_D he ⟨_, cl_at hci, t_OB.to (V := updV (vp_V _) kf _) ⟨_, e1, q2, q3, t_set q4 hap hkf _⟩ (fun j _ => vp_updV_set hl' _ j)⟩ e3) (wso_D.set he) (hS.put e2 e3 (wso_D.2 i _ he)) e2
  · rw [if_pos hfin] at hlay
    have hcf : m.cls = cf := by
      obtain ⟨_, _, c', _, _, _, -, -, hf', -, -, -, hown2, -⟩ := Cond.laysFinal_spec hlay
      have e1 : c' = cf := by have := hfi.symm.trans hf'; simp at this; exact this.1.symm
      rw [hdecl] at hown2
      rw [← e1]; exact Option.some.inj (C.2.2.2.1.symm.trans hown2)
    have h6 := u_fits hfc hkC hkind (Or.inr hlay) hfi (cl_ty hci kf hkf) (hnar b B) (hfit b B)
    refine W.putFinK C.1 C.2.1 C.2.2.2.1 (hts _ hl) hfi hst' hcf (C.2.2.2.2.2.1.trans hin2) (by rw [q2]; exact h6) q1 q3 (by rw [hsl]; exact k2_hasslot (q4 kf hkf)) rfl rfl hd fun H' e1 e2 e3 => ?_
    rw [hsl] at e1 ⊢
    exact key H' _ (hP.set wso_D he ⟨_, cl_at hci, t_OB.to (V := updV (vp_V _) kf _) ⟨_, e1, q2, q3, t_set q4 hap hkf _⟩ (fun j _ => vp_updV_set hl' _ j)⟩ e3) (wso_D.set he) (hS.put e2 e3 (wso_D.2 i _ he)) e2
theorem fvl_up {b B : Nat} {h : AH} {j ci kf : Nat} {v : Int} : ∀ i, i ≠ kf → fvl b B (up h j kf v) j ci i = fvl b B h j ci i := by
  intro i hi'
  have hne : ¬ ((i : Int) = (kf : Int)) := fun q => hi' (by omega)
  simp [fvl, hr_up, hi_up, hne, hi']
theorem fvl_ur {b B : Nat} {h : AH} {j ci kf : Nat} {v : Option Nat} : ∀ i, i ≠ kf → fvl b B (ur h j kf v) j ci i = fvl b B h j ci i := by
  intro i hi'
  have hne : ¬ ((i : Int) = (kf : Int)) := fun q => hi' (by omega)
  simp [fvl, hi_ur, hr_ur, hne, hi']
theorem nar_i {t : FieldType} {v : Int} (hv : okr (some t) v) (b B : Nat) : narrow t (cv b B (.inl v)) = cv b B (.inl v) ∧ fits t (cv b B (.inl v)) = true := by
  cases t with
  | int => exact ⟨rfl, rfl⟩
  | boolean =>
    rcases hv with rfl | rfl
    · exact ⟨rfl, rfl⟩
    · exact ⟨rfl, rfl⟩
  | char =>
    obtain ⟨n, rfl⟩ : ∃ n : Nat, v = (n : Int) := ⟨v.toNat, by have := hv.1; omega⟩
    have h2 := hv.2
    exact pk_charN (by omega)
  | _ => exact absurd hv (by simp [okr])
theorem okr_rg {t : Option FieldType} {v : Int} (hv : okr t v) : rg v := by
  match t, hv with
  | some .int, hv => exact hv
  | some .boolean, hv => rcases hv with rfl | rfl <;> decide
  | some .char, hv => exact ⟨by have := hv.1; omega, by have := hv.2; omega⟩
theorem aw_puti {idx ci kf j : Nat} {v : Int} (hd : decode md.2.1 pc = .ok (.putfield idx, 3)) (hl : Cond.fieldLink md.1.cls idx (cU ci kf).1 (cU ci kf).2.1 (cU ci kf).2.2.1 ∈ tbG) (hkf : kf < cN ci) (hT : isR (cT ci kf) = false) (hfin : (cU ci kf).2.2.2 = false) (hx : hk h j = (0, ci)) (hv : okr (some (cT ci kf)) v)
    (kk : AW md d scr Q (pc + 3) ls st (up h j kf v) k) : AW md d scr Q pc ls (.inl v :: .inr (some j) :: st) h k :=
  aw_putv (v := .inl v) (h' := up h j kf v) hd hl hkf hx (Or.inl hfin) (fun b B => (nar_i hv b B).1) (fun b B => (nar_i hv b B).2) rfl rfl (fun ho => okH_up ho (okr_rg hv)) (fun b B ca => enc_up)
    (fun b B => by simp [fvl, hT, hi_up, cv]) (fun b B => fvl_up) kk
theorem aw_putrF {idx ci kf j : Nat} {r : Nat} (hd : decode md.2.1 pc = .ok (.putfield idx, 3)) (hl : Cond.fieldLink md.1.cls idx (cU ci kf).1 (cU ci kf).2.1 (cU ci kf).2.2.1 ∈ tbG) (hkf : kf < cN ci) (hT : isR (cT ci kf) = true) (hfin : (cU ci kf).2.2.2 = true ∧ md.1.name = "<init>" ∧ (cU ci kf).1 = md.1.cls) (hx : hk h j = (0, ci))
    (kk : AW md d scr Q (pc + 3) ls st (ur h j kf (some r)) k) : AW md d scr Q pc ls (.inr (some r) :: .inr (some j) :: st) h k := by
  refine aw_putv (v := .inr (some r)) (h' := ur h j kf (some r)) hd hl hkf hx (Or.inr hfin) (fun b B => ?_) (fun b B => ?_) rfl rfl (fun ho => okH_ur ho) (fun b B ca => enc_ur) (fun b B => by simp [fvl, hT, hr_ur, cv]) (fun b B => fvl_ur) kk
  · generalize cT ci kf = t at hT
    cases t <;> simp_all [isR] <;> rfl
  · generalize cT ci kf = t at hT
    cases t <;> simp_all [isR] <;> rfl
end HE
end
section
section AR
variable {md : MD} {d : Nat} {scr : Option (Nat × (Nat → Int))} {Q : Option Int → AH → Prop} {pc : Nat} {ls : List (Option AV)} {st : List AV} {h : AH} {k : Nat × Nat}
theorem cl_nat {x : Int} (hx : rg x) (h0 : 0 ≤ x) : (Int32.ofInt x).toNatClampNeg = x.toNat := by
  show (Int32.ofInt x).toInt.toNat = x.toNat
  rw [ti hx]
theorem in_of {x : Int} {n : Nat} (hx : rg x) (h0 : 0 ≤ x) (h1 : x < n) : vp_in (Int32.ofInt x) n := by
  unfold vp_in
  rw [cl_nat hx h0]
  intro q
  rcases q with q | q
  · have := (i_lt hx rg0).mp q
    omega
  · omega
theorem to_nat {x : Int} (h0 : 0 ≤ x) : ((x.toNat : Nat) : Int) = x := Int.toNat_of_nonneg h0
theorem aw_iaload {j n : Nat} {x : Int} (hd : decode md.2.1 pc = .ok (.iaload, 1)) (hx : hk h j = (1, n)) (h0 : 0 ≤ x) (h1 : x < n) (kk : AW md d scr Q (pc + 1) ls (.inl (hi h j x) :: st) h k) : AW md d scr Q pc ls (.inl x :: .inr (some j) :: st) h k := by
  intro p l e R s m args below meth c b B D ca H locs lc Qw C hlen hH hL hst RH
  obtain ⟨hsz, hP, ho⟩ := hH.1
  obtain ⟨i, rfl, hj⟩ := okH_pos ho hx (by intro q; cases q)
  have hxr : rg x := ok_hd hst
  have he := wso_at (b := b) (B := B) (ca := ca) hj
  rw [enc_1 hx] at he
  refine va_iald C.1 C.2.1 C.2.2.2.2.2.2.1 hP i 0 he rfl (in_of hxr h0 h1) hd ?_
  rw [cl_nat hxr h0]
  show W p l e R s m args below meth c H locs k.1 k.2 Qw (F0 m (pc + 1) lc (.int (Int32.ofInt (hi h (i + 1) ((x.toNat : Nat) : Int))) :: st.map (cv b B)))
  rw [to_nat h0]
  exact kk p l e R s m args below meth c b B D ca H locs lc Qw C hlen hH hL (ok_of (ho.1 _ _) (ok_tl (ok_tl hst))) RH
theorem aw_baload {j n : Nat} {x : Int} (hd : decode md.2.1 pc = .ok (.baload, 1)) (hx : hk h j = (2, n)) (h0 : 0 ≤ x) (h1 : x < n) (kk : AW md d scr Q (pc + 1) ls (.inl (hi h j x) :: st) h k) : AW md d scr Q pc ls (.inl x :: .inr (some j) :: st) h k := by
  intro p l e R s m args below meth c b B D ca H locs lc Qw C hlen hH hL hst RH
  obtain ⟨hsz, hP, ho⟩ := hH.1
  obtain ⟨i, rfl, hj⟩ := okH_pos ho hx (by intro q; cases q)
  have hxr : rg x := ok_hd hst
  have he := wso_at (b := b) (B := B) (ca := ca) hj
  rw [enc_2 hx] at he
  refine va_zald C.1 C.2.1 C.2.2.2.2.2.2.1 hP i 1 he rfl (in_of hxr h0 h1) hd ?_
  rw [cl_nat hxr h0]
  show W p l e R s m args below meth c H locs k.1 k.2 Qw (F0 m (pc + 1) lc (.int (Int32.ofInt (hi h (i + 1) ((x.toNat : Nat) : Int))) :: st.map (cv b B)))
  rw [to_nat h0]
  exact kk p l e R s m args below meth c b B D ca H locs lc Qw C hlen hH hL (ok_of (ho.1 _ _) (ok_tl (ok_tl hst))) RH
theorem aw_caload {j n : Nat} {x : Int} (hd : decode md.2.1 pc = .ok (.caload, 1)) (hx : hk h j = (3, n)) (h0 : 0 ≤ x) (h1 : x < n) (kk : AW md d scr Q (pc + 1) ls (.inl (hi h j x) :: st) h k) : AW md d scr Q pc ls (.inl x :: .inr (some j) :: st) h k := by
  intro p l e R s m args below meth c b B D ca H locs lc Qw C hlen hH hL hst RH
  obtain ⟨hsz, hP, ho⟩ := hH.1
  obtain ⟨i, rfl, hj⟩ := okH_pos ho hx (by intro q; cases q)
  have hxr : rg x := ok_hd hst
  have he := wso_at (b := b) (B := B) (ca := ca) hj
  rw [enc_3 hx] at he
  refine va_cald C.1 C.2.1 C.2.2.2.2.2.2.1 hP i 2 he rfl (in_of hxr h0 h1) hd ?_
  rw [cl_nat hxr h0]
  show W p l e R s m args below meth c H locs k.1 k.2 Qw (F0 m (pc + 1) lc (.int (Int32.ofInt (hi h (i + 1) ((x.toNat : Nat) : Int))) :: st.map (cv b B)))
  rw [to_nat h0]
  exact kk p l e R s m args below meth c b B D ca H locs lc Qw C hlen hH hL (ok_of (ho.1 _ _) (ok_tl (ok_tl hst))) RH
theorem aw_aaload {j n : Nat} {x : Int} (hd : decode md.2.1 pc = .ok (.aaload, 1)) (hx : hk h j = (4, n)) (h0 : 0 ≤ x) (h1 : x < n) (kk : AW md d scr Q (pc + 1) ls (.inr (hr h j x) :: st) h k) : AW md d scr Q pc ls (.inl x :: .inr (some j) :: st) h k := by
  intro p l e R s m args below meth c b B D ca H locs lc Qw C hlen hH hL hst RH
  obtain ⟨hsz, hP, ho⟩ := hH.1
  obtain ⟨i, rfl, hj⟩ := okH_pos ho hx (by intro q; cases q)
  have hxr : rg x := ok_hd hst
  have he := wso_at (b := b) (B := B) (ca := ca) hj
  rw [enc_4 hx] at he
  refine va_aldq C.1 C.2.1 C.2.2.2.2.2.2.1 hP i 3 he rfl (in_of hxr h0 h1) hd ?_
  rw [cl_nat hxr h0]
  show W p l e R s m args below meth c H locs k.1 k.2 Qw (F0 m (pc + 1) lc (va_rf ((hr h (i + 1) ((x.toNat : Nat) : Int)).map (az b B)) :: st.map (cv b B)))
  rw [to_nat h0]
  exact kk p l e R s m args below meth c b B D ca H locs lc Qw C hlen hH hL (ok_of trivial (ok_tl (ok_tl hst))) RH
theorem fn_up {h : AH} {j : Nat} {x v : Int} (h0 : 0 ≤ x) : (fun k : Nat => Int32.ofInt (hi (up h j x v) j k)) = upd (fun k : Nat => Int32.ofInt (hi h j k)) x.toNat (Int32.ofInt v) := by
  funext k
  rw [hi_up]
  unfold upd
  by_cases hk' : k = x.toNat
  · rw [if_pos hk', if_pos ⟨rfl, by omega⟩]
  · rw [if_neg hk', if_neg (fun q => hk' (by have := q.2; omega))]
theorem HR_arr {b B : Nat} {D : va_G} {ca : Nat → ClassId} {H0 H H1 : Heap} {locs : List Loc} {h h' : AH} {i kx : Nat} {cA : ClassId} {a0 a1 : vp_A} (hH : HR b B D ca H0 h H locs) (hj : i < h.1) (he : (wso b B ca h)[i]? = some (B + i, .inl (cA, a0))) (hn : h'.1 = h.1) (henc : ∀ x, x ≠ i + 1 → enc b B ca h' x = enc b B ca h x) (he' : enc b B ca h' (i + 1) = .inl (cA, a1)) (ho' : okH h')
    (e1 : H1[B + i]? = some (vp_cell cA a1)) (z : H1.size = H.size) (oq : ∀ q, q ≠ B + i → H1[q]? = H[q]?) : HR b B D ca H0 h' H1 (locs ++ [⟨B + i, kx⟩]) := by
  obtain ⟨⟨hsz, hP, ho⟩, hS⟩ := hH
  have h1 := hP.set wso_D he (e := .inl (cA, a1)) (H1 := H1) e1 oq
  rw [← he', wso_set hj hn henc] at h1
  exact ⟨⟨by rw [z, hn]; exact hsz, h1, ho'⟩, hS.put z oq (Nat.le_add_right _ _)⟩
theorem aw_iastore {j n : Nat} {x v : Int} (hd : decode md.2.1 pc = .ok (.iastore, 1)) (hx : hk h j = (1, n)) (h0 : 0 ≤ x) (h1 : x < n) (kk : AW md d scr Q (pc + 1) ls st (up h j x v) k) : AW md d scr Q pc ls (.inl v :: .inl x :: .inr (some j) :: st) h k := by
  intro p l e R s m args below meth c b B D ca H locs lc Qw C hlen hH hL hst RH
  obtain ⟨hsz, hP, ho⟩ := hH.1
  obtain ⟨i, rfl, hj⟩ := okH_pos ho hx (by intro q; cases q)
  have hv : rg v := ok_hd hst
  have hxr : rg x := ok_hd (ok_tl hst)
  have he := wso_at (b := b) (B := B) (ca := ca) hj
  rw [enc_1 hx] at he
  have hin := in_of hxr h0 h1
  refine W.iast C.1 C.2.1 (hP i _ he) ((C.2.2.2.2.2.2.1.2 0 _ rfl).1 n (fun q => .int (Int32.ofInt (hi h (i + 1) q)))) (fun q => by cases q) (by show ¬ (_ ∨ (arrV _ _ _).slots.size ≤ _); rw [arrV_size]; exact hin) rfl rfl hd fun H1 e1 z oq => ?_
  refine kk p l e R s m args below meth c b B D ca H1 _ lc Qw C hlen (HR_arr hH hj he rfl enc_up (enc_1 hx) (okH_up ho hv) ?_ z oq) hL (ok_tl (ok_tl (ok_tl hst))) RH
  rw [e1, fn_up h0, ← cl_nat hxr h0]
  rw [vp_cell_i, vp_cell_i, arrV_store]
  congr 2
  funext q
  by_cases hq : q = (Int32.ofInt x).toNatClampNeg
  · subst hq
    simp [updV, upd]
  · simp [updV, upd, hq]
theorem aw_bastore {j n : Nat} {x v : Int} (hd : decode md.2.1 pc = .ok (.bastore, 1)) (hx : hk h j = (2, n)) (h0 : 0 ≤ x) (h1 : x < n) (hv01 : v = 0 ∨ v = 1) (kk : AW md d scr Q (pc + 1) ls st (up h j x v) k) : AW md d scr Q pc ls (.inl v :: .inl x :: .inr (some j) :: st) h k := by
  intro p l e R s m args below meth c b B D ca H locs lc Qw C hlen hH hL hst RH
  obtain ⟨hsz, hP, ho⟩ := hH.1
  obtain ⟨i, rfl, hj⟩ := okH_pos ho hx (by intro q; cases q)
  have hv : rg v := ok_hd hst
  have hxr : rg x := ok_hd (ok_tl hst)
  have he := wso_at (b := b) (B := B) (ca := ca) hj
  rw [enc_2 hx] at he
  have hin := in_of hxr h0 h1
  have hnv : narrow .boolean (.int (Int32.ofInt v)) = .int (Int32.ofInt v) := (nar_i (t := .boolean) (v := v) hv01 b B).1
  refine W.zast C.1 C.2.1 (hP i _ he) ((C.2.2.2.2.2.2.1.2 1 _ rfl).1 n (fun q => .int (Int32.ofInt (hi h (i + 1) q)))) (fun q => by cases q) (by show ¬ (_ ∨ (arrV _ _ _).slots.size ≤ _); rw [arrV_size]; exact hin) rfl rfl hd fun H1 e1 z oq => ?_
  refine kk p l e R s m args below meth c b B D ca H1 _ lc Qw C hlen (HR_arr hH hj he rfl enc_up (enc_2 hx) (okH_up ho hv) ?_ z oq) hL (ok_tl (ok_tl (ok_tl hst))) RH
  rw [e1, fn_up h0, ← cl_nat hxr h0]
  rw [vp_cell_i, vp_cell_i, arrV_store]
  congr 2
  funext q
  by_cases hq : q = (Int32.ofInt x).toNatClampNeg
  · subst hq
    simpa [updV, upd] using hnv
  · simp [updV, upd, hq]
theorem aw_castore {j n : Nat} {x v : Int} (hd : decode md.2.1 pc = .ok (.castore, 1)) (hx : hk h j = (3, n)) (h0 : 0 ≤ x) (h1 : x < n) (hv01 : 0 ≤ v ∧ v < 65536) (kk : AW md d scr Q (pc + 1) ls st (up h j x v) k) : AW md d scr Q pc ls (.inl v :: .inl x :: .inr (some j) :: st) h k := by
  intro p l e R s m args below meth c b B D ca H locs lc Qw C hlen hH hL hst RH
  obtain ⟨hsz, hP, ho⟩ := hH.1
  obtain ⟨i, rfl, hj⟩ := okH_pos ho hx (by intro q; cases q)
  have hv : rg v := ok_hd hst
  have hxr : rg x := ok_hd (ok_tl hst)
  have he := wso_at (b := b) (B := B) (ca := ca) hj
  rw [enc_3 hx] at he
  have hin := in_of hxr h0 h1
  have hnv : narrow .char (.int (Int32.ofInt v)) = .int (Int32.ofInt v) := (nar_i (t := .char) (v := v) hv01 b B).1
  refine W.cast C.1 C.2.1 (hP i _ he) ((C.2.2.2.2.2.2.1.2 2 _ rfl).1 n (fun q => .int (Int32.ofInt (hi h (i + 1) q)))) (fun q => by cases q) (by show ¬ (_ ∨ (arrV _ _ _).slots.size ≤ _); rw [arrV_size]; exact hin) rfl rfl hd fun H1 e1 z oq => ?_
  refine kk p l e R s m args below meth c b B D ca H1 _ lc Qw C hlen (HR_arr hH hj he rfl enc_up (enc_3 hx) (okH_up ho hv) ?_ z oq) hL (ok_tl (ok_tl (ok_tl hst))) RH
  rw [e1, fn_up h0, ← cl_nat hxr h0]
  rw [vp_cell_i, vp_cell_i, arrV_store]
  congr 2
  funext q
  by_cases hq : q = (Int32.ofInt x).toNatClampNeg
  · subst hq
    simpa [updV, upd] using hnv
  · simp [updV, upd, hq]
/-- a row of states gets one -/
theorem aw_aastore {j n u : Nat} {x : Int} (hd : decode md.2.1 pc = .ok (.aastore, 1)) (hx : hk h j = (4, n)) (h0 : 0 ≤ x) (h1 : x < n) (hu : hk h u = (0, 2)) (kk : AW md d scr Q (pc + 1) ls st (ur h j x (some u)) k) : AW md d scr Q pc ls (.inr (some u) :: .inl x :: .inr (some j) :: st) h k := by
  intro p l e R s m args below meth c b B D ca H locs lc Qw C hlen hH hL hst RH
  obtain ⟨hsz, hP, ho⟩ := hH.1
  obtain ⟨i, rfl, hj⟩ := okH_pos ho hx (by intro q; cases q)
  obtain ⟨iu, rfl, hju⟩ := okH_pos ho hu (by intro q; cases q)
  have hxr : rg x := ok_hd (ok_tl hst)
  have he := wso_at (b := b) (B := B) (ca := ca) hj
  rw [enc_4 hx] at he
  have heu := wso_at (b := b) (B := B) (ca := ca) hju
  rw [enc_o hu] at heu
  have hin := in_of hxr h0 h1
  have hlt : (Int32.ofInt x).toNatClampNeg < n := Nat.not_le.mp fun q => hin (Or.inr q)
  have hn0 : ¬ Int32.ofInt x < 0 := fun q => hin (Or.inl q)
  have hK := C.2.2.2.2.2.2.1
  obtain ⟨r', hr', cellV, g1, g2, g3, -⟩ := hP iu _ heu
  have hcls := (hK.1 2 _ (cl_at (ci := 2) (by decide))).2
  obtain ⟨kA, comp, k1, k2, k3, -⟩ := (hK.2 3 _ rfl).2
  have hcomp : comp = D.1 2 := Option.some.inj (k3.symm.trans hcls.1)
  subst hcomp
  obtain ⟨kC, hkC, -⟩ := hcls.2
  refine W.aast C.1 C.2.1 (hP i _ he) (fun q h => by cases h) (fun h => by cases h) k1 k2 rfl hkC ⟨hn0, by show _ < (arrV _ _ _).slots.size; rw [arrV_size]; exact hlt⟩ g1 (fun q h => by rw [g3] at h; cases h) (by rw [g2]; exact hkC) (by rw [g2]; exact va_assign hcls) rfl rfl hd fun H1 e1 z oq => ?_
  refine kk p l e R s m args below meth c b B D ca H1 _ lc Qw C hlen (HR_arr hH hj he rfl enc_ur (enc_4 hx) (okH_ur ho) ?_ z oq) hL (ok_tl (ok_tl (ok_tl hst))) RH
  rw [e1]
  rw [vp_cell_q, vp_cell_q, arrV_store]
  congr 2
  funext q
  by_cases hq : q = (Int32.ofInt x).toNatClampNeg
  · subst hq
    rw [cl_nat hxr h0]
    simp [updV, hr_ur, to_nat h0, va_rf, az]
  · have hq2 : ¬ (q : Int) = x := fun e => hq (by rw [cl_nat hxr h0]; omega)
    simp [updV, hq, hr_ur, hq2]
/-- the script -/
theorem aw_slen {q : Nat × (Nat → Int)} (hd : decode md.2.1 pc = .ok (.arraylength, 1)) (hs : scr = some q) (kk : AW md d scr Q (pc + 1) ls (.inl q.1 :: st) h k) : AW md d scr Q pc ls (.inr (some 0) :: st) h k := by
  intro p l e R s m args below meth c b B D ca H locs lc Qw C hlen hH hL hst RH
  obtain ⟨hX, hbB, hB, hL31, hq⟩ := C.2.2.2.2.2.2.2.2.2.2.2.2 q hs
  refine va_slen C.1 C.2.1 hX (hB ▸ hbB) (Nat.not_le.mpr hbB) hH.2 hd ?_
  exact kk p l e R s m args below meth c b B D ca H locs lc Qw C hlen hH hL (ok_of ⟨by omega, by omega⟩ (ok_tl hst)) RH
theorem aw_sld {q : Nat × (Nat → Int)} {x : Int} (hd : decode md.2.1 pc = .ok (.iaload, 1)) (hs : scr = some q) (h0 : 0 ≤ x) (h1 : x < q.1) (kk : AW md d scr Q (pc + 1) ls (.inl (q.2 x.toNat) :: st) h k) : AW md d scr Q pc ls (.inl x :: .inr (some 0) :: st) h k := by
  intro p l e R s m args below meth c b B D ca H locs lc Qw C hlen hH hL hst RH
  obtain ⟨hX, hbB, hB, hL31, hq⟩ := C.2.2.2.2.2.2.2.2.2.2.2.2 q hs
  have hxr : rg x := ok_hd hst
  refine va_sld C.1 C.2.1 hX (hB ▸ hbB) (Nat.not_le.mpr hbB) hH.2 (in_of hxr h0 h1) hd ?_
  rw [cl_nat hxr h0]
  exact kk p l e R s m args below meth c b B D ca H locs lc Qw C hlen hH hL (ok_of (hq _) (ok_tl (ok_tl hst))) RH
end AR
end
section
section CA
variable {md : MD} {d : Nat} {scr : Option (Nat × (Nat → Int))} {Q : Option Int → AH → Prop} {pc : Nat} {ls : List (Option AV)} {st : List AV} {h : AH} {k : Nat × Nat}
theorem okH_nw {h : AH} {kd : Nat × Nat} (ho : okH h) (hk0 : ∀ ci, kd = (0, ci) → ci < 8) : okH (nw h kd) := by
  refine ⟨fun a b => ?_, ?_, fun j hj => ?_, fun j ci hj => ?_⟩
  · show rg (if a = h.1 + 1 then 0 else h.2.2.2 a b)
    split
    · decide
    · exact ho.1 a b
  · show (if 0 = h.1 + 1 then kd else h.2.1 0) = _
    rw [if_neg (by omega)]
    exact ho.2.1
  · have hj' : h.1 + 1 < j := hj
    show (if j = h.1 + 1 then kd else h.2.1 j) = _
    rw [if_neg (by omega)]
    exact ho.2.2.1 j (by omega)
  · have hj' : (if j = h.1 + 1 then kd else h.2.1 j) = (0, ci) := hj
    split at hj'
    · exact hk0 ci hj'
    · exact ho.2.2.2 j ci hj'
theorem enc_nw {b B : Nat} {ca : Nat → ClassId} {h : AH} {kd : Nat × Nat} : ∀ i, i ≤ h.1 → enc b B ca (nw h kd) i = enc b B ca h i := by
  intro i hi'
  have hne : ¬ i = h.1 + 1 := by omega
  exact enc_cong (by show (if i = h.1 + 1 then kd else h.2.1 i) = _; rw [if_neg hne]; rfl) (fun k => by show (if i = h.1 + 1 then none else h.2.2.1 i k) = _; rw [if_neg hne]; rfl) (fun k => by show (if i = h.1 + 1 then 0 else h.2.2.2 i k) = _; rw [if_neg hne]; rfl)
theorem hk_nw {h : AH} {kd : Nat × Nat} : hk (nw h kd) (h.1 + 1) = kd := by show (if h.1 + 1 = h.1 + 1 then kd else _) = kd; rw [if_pos rfl]
theorem hr_nw {h : AH} {kd : Nat × Nat} {x : Int} : hr (nw h kd) (h.1 + 1) x = none := by show (if h.1 + 1 = h.1 + 1 then none else _) = none; rw [if_pos rfl]
theorem hi_nw {h : AH} {kd : Nat × Nat} {x : Int} : hi (nw h kd) (h.1 + 1) x = 0 := by show (if h.1 + 1 = h.1 + 1 then 0 else _) = (0 : Int); rw [if_pos rfl]
theorem HR_new {b B : Nat} {D : va_G} {ca : Nat → ClassId} {H0 H H1 : Heap} {locs : List Loc} {h : AH} {kd : Nat × Nat} (hH : HR b B D ca H0 h H locs) (hk0 : ∀ ci, kd = (0, ci) → ci < 8)
    (e1 : va_at D vwCl (H.size, enc b B ca (nw h kd) (h.1 + 1)) H1) (z : H1.size = H.size + 1) (oq : ∀ q, q < H.size → H1[q]? = H[q]?) : HR b B D ca H0 (nw h kd) H1 locs := by
  obtain ⟨⟨hsz, hP, ho⟩, hS⟩ := hH
  have h1 : va_P D vwCl (wso b B ca h ++ [(B + h.1, enc b B ca (nw h kd) (h.1 + 1))]) H1 := by
    refine (hP.kept (fun k x hx => oq x.1 ((hP k x hx).lt))).app (fun k x hx => ?_)
    have hz : k < 1 := (List.getElem?_eq_some_iff.mp hx).1
    rw [show k = 0 by omega] at hx
    cases hx
    rw [← hsz]
    exact e1
  rw [wso_push rfl enc_nw] at h1
  exact ⟨⟨by show H1.size = B + (h.1 + 1); omega, h1, okH_nw ho hk0⟩, Nat.le_trans hS.1 (by omega), fun x g1 g2 => (oq x (Nat.lt_of_lt_of_le g1 hS.1)).trans (hS.2.1 x g1 g2), hS.2.2⟩
theorem dflt_ok : ∀ ci, ci < 8 → ∀ kf, kf < cN ci → defaultValue (cT ci kf) = if isR (cT ci kf) = true then .null else .int 0 := by
  intro ci hci
  match ci, hci with
  | 0, _ => decide +kernel
  | 1, _ => decide +kernel
  | 2, _ => decide +kernel
  | 3, _ => decide +kernel
  | 4, _ => decide +kernel
  | 5, _ => decide +kernel
  | 6, _ => decide +kernel
  | 7, _ => decide +kernel
theorem aw_new {idx ci : Nat} (hd : decode md.2.1 pc = .ok (.new idx, 3)) (hci : ci < 8) (hcl : Cond.classLink md.1.cls idx (cR ci) ∈ tbG) (hinst : Cond.instantiable (cR ci) (cN ci) ∈ tbG) (hini : Cond.initialized (cR ci) ∈ tbG) (h1 : k.1 + 1 ≤ md.2.2.2.2.1) (h2 : k.2 + cN ci ≤ md.2.2.2.2.2)
    (kk : AW md d scr Q (pc + 3) ls (.inr (some (h.1 + 1)) :: st) (nw h (0, ci)) (k.1 + 1, k.2 + cN ci)) : AW md d scr Q pc ls st h k := by
  intro p l e R s m args below meth c b B D ca H locs lc Qw C hlen hH hL hst RH
  have hK := C.2.2.2.2.2.2.1
  have hts := C.2.2.2.2.1
  have hKn := hK.1 ci _ (cl_at hci)
  refine W.newcK C.1 C.2.1 C.2.2.2.1 (hts _ hcl) (hts _ hinst) (hts _ hini) rfl hd (by rw [C.2.2.2.2.2.2.2.2.1]; exact h1) (by rw [C.2.2.2.2.2.2.2.2.2.1]; exact h2) hKn.2.1 rfl fun H1 kC hkC e1 z1 o1 => ?_
  have hsz := hH.1.1
  have g := kk p l e R s m args below meth c b B D ca H1 locs lc Qw C hlen (HR_new hH (fun x q => by cases q; exact hci) ?_ z1 o1) hL (ok_of trivial hst) RH
  · rw [hsz]
    exact g
  · rw [enc_o hk_nw]
    refine ⟨_, cl_at hci, (u_born (cT ci) hts (cl_words hci) hKn hkC e1 (cl_ty hci)).to (fun j hj => ?_)⟩
    have hj' : j < cN ci := hj
    rw [dflt_ok ci hci j hj']
    simp only [vp_V, List.getD_eq_getElem?_getD]
    rw [fs_at hj']
    simp only [fvl, hr_nw, hi_nw]
    rfl
theorem aw_newarr_int {n : Nat} {x : Int} {at' : ArrayType} (hd : decode md.2.1 pc = .ok (.newarray at', 2)) (hat : newarray.typeOf at' = .int) (harr : Cond.arrayClass .int ∈ tbG) (hx : x = (n : Int)) (hn : n ≤ 65536) (h1 : k.1 + 1 ≤ md.2.2.2.2.1) (h2 : k.2 + n ≤ md.2.2.2.2.2)
    (kk : AW md d scr Q (pc + 2) ls (.inr (some (h.1 + 1)) :: st) (nw h (1, n)) (k.1 + 1, k.2 + n)) : AW md d scr Q pc ls (.inl x :: st) h k := by
  intro p l e R s m args below meth c b B D ca H locs lc Qw C hlen hH hL hst RH
  have hK := C.2.2.2.2.2.2.1
  have hts := C.2.2.2.2.1
  subst hx
  have hxr : rg (n : Int) := ok_hd hst
  have hsz := hH.1.1
  refine va_newaK C.1 C.2.1 (hts _ (hat.symm ▸ harr)) rfl hd (n := Int32.ofInt (n : Int)) (N := n) rfl (fun q => ?_) (by rw [cl_nat hxr (by omega)]; omega) ?_ (by rw [C.2.2.2.2.2.2.2.2.1]; exact h1) (by rw [C.2.2.2.2.2.2.2.2.2.1]; exact h2) rfl fun H1 cA e1 z1 o1 hAr hNm => ?_
  · have := (i_lt hxr rg0).mp q
    omega
  · rw [hat]
    simp only [componentBytes]
    omega
  · rw [hat] at e1 hAr hNm
    have hcA : cA = ca 1 := Option.some.inj (hNm.symm.trans (show s.vm.findClass ("[" ++ FieldType.toString .int) = some (ca 1) from (hK.2 0 _ rfl).2))
    have e1' : va_at D vwCl (H.size, enc b B ca (nw h (1, n)) (h.1 + 1)) H1 := by
      rw [enc_1 hk_nw]
      show H1[H.size]? = some (vp_cell (ca 1) (n, .inl _))
      rw [e1, hcA, vp_cell_i]
      congr 2
      funext q
      rw [hi_nw]
      rfl
    have g := kk p l e R s m args below meth c b B D ca H1 locs lc Qw C hlen (HR_new hH (fun x q => by cases q) e1' z1 o1) hL (ok_of trivial (ok_tl hst)) RH
    rw [hsz]
    exact g
theorem aw_newarr_bool {n : Nat} {x : Int} {at' : ArrayType} (hd : decode md.2.1 pc = .ok (.newarray at', 2)) (hat : newarray.typeOf at' = .boolean) (harr : Cond.arrayClass .boolean ∈ tbG) (hx : x = (n : Int)) (hn : n ≤ 65536) (h1 : k.1 + 1 ≤ md.2.2.2.2.1) (h2 : k.2 + n ≤ md.2.2.2.2.2)
    (kk : AW md d scr Q (pc + 2) ls (.inr (some (h.1 + 1)) :: st) (nw h (2, n)) (k.1 + 1, k.2 + n)) : AW md d scr Q pc ls (.inl x :: st) h k := by
  intro p l e R s m args below meth c b B D ca H locs lc Qw C hlen hH hL hst RH
  have hK := C.2.2.2.2.2.2.1
  have hts := C.2.2.2.2.1
  subst hx
  have hxr : rg (n : Int) := ok_hd hst
  have hsz := hH.1.1
  refine va_newaK C.1 C.2.1 (hts _ (hat.symm ▸ harr)) rfl hd (n := Int32.ofInt (n : Int)) (N := n) rfl (fun q => ?_) (by rw [cl_nat hxr (by omega)]; omega) ?_ (by rw [C.2.2.2.2.2.2.2.2.1]; exact h1) (by rw [C.2.2.2.2.2.2.2.2.2.1]; exact h2) rfl fun H1 cA e1 z1 o1 hAr hNm => ?_
  · have := (i_lt hxr rg0).mp q
    omega
  · rw [hat]
    simp only [componentBytes]
    omega
  · rw [hat] at e1 hAr hNm
    have hcA : cA = ca 2 := Option.some.inj (hNm.symm.trans (show s.vm.findClass ("[" ++ FieldType.toString .boolean) = some (ca 2) from (hK.2 1 _ rfl).2))
    have e1' : va_at D vwCl (H.size, enc b B ca (nw h (2, n)) (h.1 + 1)) H1 := by
      rw [enc_2 hk_nw]
      show H1[H.size]? = some (vp_cell (ca 2) (n, .inl _))
      rw [e1, hcA, vp_cell_i]
      congr 2
      funext q
      rw [hi_nw]
      rfl
    have g := kk p l e R s m args below meth c b B D ca H1 locs lc Qw C hlen (HR_new hH (fun x q => by cases q) e1' z1 o1) hL (ok_of trivial (ok_tl hst)) RH
    rw [hsz]
    exact g
theorem aw_newarr_char {n : Nat} {x : Int} {at' : ArrayType} (hd : decode md.2.1 pc = .ok (.newarray at', 2)) (hat : newarray.typeOf at' = .char) (harr : Cond.arrayClass .char ∈ tbG) (hx : x = (n : Int)) (hn : n ≤ 65536) (h1 : k.1 + 1 ≤ md.2.2.2.2.1) (h2 : k.2 + n ≤ md.2.2.2.2.2)
    (kk : AW md d scr Q (pc + 2) ls (.inr (some (h.1 + 1)) :: st) (nw h (3, n)) (k.1 + 1, k.2 + n)) : AW md d scr Q pc ls (.inl x :: st) h k := by
  intro p l e R s m args below meth c b B D ca H locs lc Qw C hlen hH hL hst RH
  have hK := C.2.2.2.2.2.2.1
  have hts := C.2.2.2.2.1
  subst hx
  have hxr : rg (n : Int) := ok_hd hst
  have hsz := hH.1.1
  refine va_newaK C.1 C.2.1 (hts _ (hat.symm ▸ harr)) rfl hd (n := Int32.ofInt (n : Int)) (N := n) rfl (fun q => ?_) (by rw [cl_nat hxr (by omega)]; omega) ?_ (by rw [C.2.2.2.2.2.2.2.2.1]; exact h1) (by rw [C.2.2.2.2.2.2.2.2.2.1]; exact h2) rfl fun H1 cA e1 z1 o1 hAr hNm => ?_
  · have := (i_lt hxr rg0).mp q
    omega
  · rw [hat]
    simp only [componentBytes]
    omega
  · rw [hat] at e1 hAr hNm
    have hcA : cA = ca 3 := Option.some.inj (hNm.symm.trans (show s.vm.findClass ("[" ++ FieldType.toString .char) = some (ca 3) from (hK.2 2 _ rfl).2))
    have e1' : va_at D vwCl (H.size, enc b B ca (nw h (3, n)) (h.1 + 1)) H1 := by
      rw [enc_3 hk_nw]
      show H1[H.size]? = some (vp_cell (ca 3) (n, .inl _))
      rw [e1, hcA, vp_cell_i]
      congr 2
      funext q
      rw [hi_nw]
      rfl
    have g := kk p l e R s m args below meth c b B D ca H1 locs lc Qw C hlen (HR_new hH (fun x q => by cases q) e1' z1 o1) hL (ok_of trivial (ok_tl hst)) RH
    rw [hsz]
    exact g
theorem aw_newref {n : Nat} {x : Int} {idx : Nat} (hd : decode md.2.1 pc = .ok (.anewarray idx, 3)) (hcl : Cond.classLink md.1.cls idx RX2 ∈ tbG) (hx : x = (n : Int)) (hn : n ≤ 65536) (h1 : k.1 + 1 ≤ md.2.2.2.2.1) (h2 : k.2 + n ≤ md.2.2.2.2.2)
    (kk : AW md d scr Q (pc + 3) ls (.inr (some (h.1 + 1)) :: st) (nw h (4, n)) (k.1 + 1, k.2 + n)) : AW md d scr Q pc ls (.inl x :: st) h k := by
  intro p l e R s m args below meth c b B D ca H locs lc Qw C hlen hH hL hst RH
  have hK := C.2.2.2.2.2.2.1
  have hts := C.2.2.2.2.1
  subst hx
  have hxr : rg (n : Int) := ok_hd hst
  have hsz := hH.1.1
  have hcn := cl_nat hxr (by omega)
  have hcn' : (Int32.ofInt (n : Int)).toNatClampNeg = n := by rw [hcn]; omega
  refine W.anew C.1 C.2.1 C.2.2.2.1 (hts _ hcl) (C.2.2.2.2.2.2.2.1.2.2.use) rfl hd (n := Int32.ofInt (n : Int)) rfl (fun q => ?_) (by rw [hcn']; omega) (by rw [C.2.2.2.2.2.2.2.2.1]; exact h1) (by rw [hcn', C.2.2.2.2.2.2.2.2.2.1]; exact h2) fun cA kA comp f1 f2 f3 f4 => ?_
  · have := (i_lt hxr rg0).mp q
    omega
  · rw [hcn']
    generalize hH1 : H.push ({ cls := cA, slots := Array.replicate n .null, vm := .none } : Cell) = H1
    have z1 : H1.size = H.size + 1 := by rw [← hH1, Array.size_push]
    have e1 : H1[H.size]? = some (arrV cA n (fun _ => .null)) := by rw [← hH1, Array.getElem?_push_size, ← arrV_new]
    have o1 : ∀ q : Nat, q < H.size → H1[q]? = H[q]? := fun q hq => by rw [← hH1, Array.getElem?_push, if_neg (Nat.ne_of_lt hq)]
    obtain ⟨kB, cmp, r1, r2, r3, r4⟩ := (hK.2 3 _ rfl).2
    have hcA : cA = ca 4 := Option.some.inj (f1.symm.trans r4)
    have e1' : va_at D vwCl (H.size, enc b B ca (nw h (4, n)) (h.1 + 1)) H1 := by
      rw [enc_4 hk_nw]
      show H1[H.size]? = some (vp_cell (ca 4) (n, .inr (.inr (.inr (.inr _)))))
      rw [e1, hcA, vp_cell_q]
      congr 2
      funext q
      rw [hr_nw]
      rfl
    have g := kk p l e R s m args below meth c b B D ca H1 locs lc Qw C hlen (HR_new hH (fun x q => by cases q) e1' z1 o1) hL (ok_of trivial (ok_tl hst)) RH
    rw [hsz]
    exact g
/-! returns -/
theorem aw_ireturn {v : Int} (hd : decode md.2.1 pc = .ok (.ireturn, 1)) (hv : okr md.2.2.2.1 v) (hq : Q (some v) h) (h1 : k.1 ≤ md.2.2.2.2.1) (h2 : k.2 ≤ md.2.2.2.2.2) : AW md d scr Q pc ls [.inl v] h k := by
  intro p l e R s m args below meth c b B D ca H locs lc Qw C hlen hH hL hst RH
  exact RH (some v) pc h H locs lc k hH hq h1 h2 hv hd
theorem aw_return (hd : decode md.2.1 pc = .ok (.return_, 1)) (hr : md.2.2.2.1 = none) (hq : Q none h) (h1 : k.1 ≤ md.2.2.2.2.1) (h2 : k.2 ≤ md.2.2.2.2.2) : AW md d scr Q pc ls [] h k := by
  intro p l e R s m args below meth c b B D ca H locs lc Qw C hlen hH hL hst RH
  exact RH none pc h H locs lc k hH hq h1 h2 hr hd
/-! calls -/
def MO (md : MD) (n : Nat) : Prop := Cond.initialized md.1.cls ∈ tbG ∧ Cond.code md.1 md.2.1 md.2.2.1 md.2.2.2.1 ∈ tbG ∧ (md.1.cls ≠ "java/lang/invoke/MethodHandle" ∧ md.1.cls ≠ "java/lang/invoke/VarHandle" ∧ (parseMethodDescriptor md.1.desc).map (fun d => d.parameters.length) = some n) ∧ md.2.2.1 ≤ 20 ∧ plainName md.1.cls = true
theorem goodG {w : Cond} (h : w ∈ tbG) : w ∈ tbG ∧ ((w.onTables && w.keeps) = true ∨ ∃ ty, w = .arrayClass ty) := ⟨h, good_of_word (List.mem_filter.mp h).2⟩
theorem good_wmo {md : MD} {n : Nat} (h : MO md n) : GoodIn tbG (wmo md) := fun w hw => (List.mem_cons.mp hw).elim (fun e => by rw [e]; exact goodG h.2.1) goodG
theorem st_cat {b B : Nat} (st : List AV) : ((st.map (cv b B)).map fun v => v.category).sum = st.length := by
  induction st with
  | nil => rfl
  | cons a t ih =>
    simp only [List.map_cons, List.sum_cons, List.length_cons, cv_cat, ih]
    omega
theorem q_call {p : Program} {l : Launch} {e : Env} {R : Room} {s : State} {m : MethodId} {args : Array Value} {below : List Frame} {meth : Method} {c : Code} {H : Heap} {locs : List Loc} {cells slots mc ms : Nat} {Qw : State → Prop} {pc : Nat} {lc : Array Slot} {st0 rest : List Value} {b B : Nat} {D : va_G} {ca : Nat → ClassId} {Q : Option Int → AH → Prop} {a : Array Value}
    (hr : va_Run p l e R s m args below meth c H locs cells slots mc ms (F0 m pc lc st0) rest (Pst b B D ca Q a) (fun q => B ≤ q)) (hS : va_S (fun q => B ≤ q) s.heap H locs)
    (kk : ∀ (r : Option Int) (h' : AH) (H1 : Heap) (locs1 : List Loc), (∀ v, r = some v → rg v) → Q r h' → HR b B D ca s.heap h' H1 locs1 → W p l e R s m args below meth c H1 locs1 (cells + mc) (slots + ms) Qw (F0 m (pc + 3) lc ((r.map fun v => Value.int (Int32.ofInt v)).toList ++ rest))) :
    W p l e R s m args below meth c H locs cells slots Qw (F0 m pc lc st0) := by
  intro T hT X
  obtain ⟨v, st₀, t, T', L, h0, X', hL, e1, e2, ⟨⟨r, h', hv, hrg, hq, hh⟩, hz, hk⟩, sp⟩ := hr T hT X
  cases hv
  rw [h0] at hz hk
  obtain ⟨t2, a1, b1⟩ := kk r h' T'.heap (locs ++ L) hrg hq ⟨by rw [e1]; exact hh, Nat.le_trans hS.1 (by rw [e1]; exact hz), fun q h1 h2 => by rw [e1, hk q (Nat.lt_of_lt_of_le h1 hS.1) h2]; exact hS.2.1 q h1 h2, fun q hq => by
      rcases List.mem_append.mp hq with h | h
      · exact hS.2.2 q h
      · exact hL q h⟩ T' rfl X'
  exact ⟨t2, sp t2 a1, b1⟩
theorem prc_S {b B : Nat} {D : va_G} {ca : Nat → ClassId} {as : List AV} {h : AH} {s : State} {H : Heap} (hH : HP b B D ca h H) (hK : va_K D vwCl (tys ca) s) (hN : NW s) : PreS s H (Prc b B D ca as h) (as.map (cv b B)) :=
  ⟨fun a U g mk q => by obtain ⟨q0, qP, qK, qN⟩ := q; exact ⟨q0, qP, va_K.moved (u := U) (U := U.calling g mk a) (Vm.Alike.refl U.vm) qK, qN.call⟩, fun U hU hW => ⟨rfl, by rw [hU]; exact hH, va_K.moved hW.alike hK, hN.warm hW⟩⟩
theorem frames_ok {R : Room} {d maxL : Nat} {md : MD} (hd1 : 1 ≤ d) (hf : d ≤ R.frames) (hl : 40 * d ≤ R.locals) (hm : maxL ≤ 20) : (rmo (d - 1) md).frames + 1 ≤ R.frames ∧ 8 + (maxL + 11) + (rmo (d - 1) md).locals ≤ R.locals := by
  show d - 1 + 1 ≤ R.frames ∧ 8 + (maxL + 11) + 40 * (d - 1) ≤ R.locals
  omega
theorem ok_as {st as : List AV} (h : ∀ x ∈ as.reverse ++ st, ok x) : (∀ x ∈ as, ok x) ∧ ∀ x ∈ st, ok x := ⟨fun x hx => h x (List.mem_append_left _ (List.mem_reverse.mpr hx)), fun x hx => h x (List.mem_append_right _ hx)⟩
theorem ok_res {st : List AV} {r : Option Int} (hr : ∀ v, r = some v → rg v) (h : ∀ x ∈ st, ok x) : ∀ x ∈ (r.map Sum.inl).toList ++ st, ok x := by
  intro x hx
  rcases List.mem_append.mp hx with hx | hx
  · cases r with
    | none => cases hx
    | some v =>
      rw [List.mem_singleton.mp hx]
      exact hr v rfl
  · exact h x hx
theorem res_map {b B : Nat} {st : List AV} {r : Option Int} : ((r.map Sum.inl).toList ++ st).map (cv b B) = (r.map fun v => Value.int (Int32.ofInt v)).toList ++ st.map (cv b B) := by
  cases r <;> rfl
/-- a method of an object's own class -/
theorem aw_invV {md' : MD} {idx n ci j : Nat} {as : List AV} (hd : decode md.2.1 pc = .ok (.invokevirtual idx, 3)) (hm : MO md' n) (hi : Cond.instanceMethod md'.1 ∈ tbG) (hsel : Cond.selects md'.1.cls md'.1 md'.1 ∈ tbG) (hl : Cond.methodLink md.1.cls idx md'.1 ∈ tbG) (hC : cR ci = md'.1.cls) (hx : hk h j = (0, ci)) (hn : as.length = n) (hd1 : 1 ≤ d) (hst8 : st.length ≤ 8)
    (h1 : k.1 + md'.2.2.2.2.1 ≤ md.2.2.2.2.1) (h2 : k.2 + md'.2.2.2.2.2 ≤ md.2.2.2.2.2)
    (hM : AM (d - 1) md' (.inr (some j) :: as) h (fun r h' => AW md d scr Q (pc + 3) ls ((r.map Sum.inl).toList ++ st) h' (k.1 + md'.2.2.2.2.1, k.2 + md'.2.2.2.2.2))) : AW md d scr Q pc ls (as.reverse ++ .inr (some j) :: st) h k := by
  intro p l e R s m args below meth c b B D ca H locs lc Qw C hlen hH hL hst RH
  obtain ⟨hsz, hP, ho⟩ := hH.1
  obtain ⟨i, rfl, hj⟩ := okH_pos ho hx (by intro q; cases q)
  have hci := ho.2.2.2 _ _ hx
  have hK := C.2.2.2.2.2.2.1
  have hts := C.2.2.2.2.1
  have he := wso_at (b := b) (B := B) (ca := ca) hj
  rw [enc_o hx] at he
  obtain ⟨hoas, host⟩ := ok_as hst
  have hfr := frames_ok (md := md') hd1 C.2.2.2.2.2.2.2.2.2.2.1 C.2.2.2.2.2.2.2.2.2.2.2.1 hm.2.2.2.1
  have hT : GoodIn tbG (wsV md.1.cls idx md'.1.cls md'.1 (wmo md')) := by
    intro w hw
    rcases List.mem_append.mp hw with hw | hw
    · simp only [List.mem_cons, List.not_mem_nil, or_false] at hw
      rcases hw with rfl | rfl | rfl | rfl
      · exact goodG hl
      · exact goodG hi
      · exact goodG hsel
      · exact goodG hm.1
    · exact good_wmo hm w hw
  have hrec := va_recv hK hP (cl_at hci) he
  rw [hC] at hrec
  have hPS := prc_S (as := .inr (some (i + 1)) :: as) hH.1 hK C.2.2.2.2.2.2.2.1.2
  refine q_call (rest := st.map (cv b B)) (va_runV (As := as.map (cv b B)) (b := B + i) ⟨C.1, C.2.1, C.2.2.1, C.2.2.2.1, hts⟩ (hM l b B D ca (ok_of trivial hoas)) (cwV n hts hT rfl rfl rfl ⟨rfl, hm.2.2.1⟩ hfr) ⟨hPS.1, hrec, hPS.2⟩ rfl (by rw [List.length_map]; exact hn) (by show lc.size = _; rw [hL.1.1, hlen]) (by simp [cv, va_rf, az]) (lv_room (by rw [st_cat]; exact hst8)) hd ⟨by rw [C.2.2.2.2.2.2.2.2.1]; exact h1, by rw [C.2.2.2.2.2.2.2.2.2.1]; exact h2⟩) hH.2 fun r h' H1 locs1 hrg hq hH1 => ?_
  have g := hq p l e R s m args below meth c b B D ca H1 locs1 lc Qw C hlen hH1 hL (ok_res hrg (ok_tl host)) RH
  rw [res_map] at g
  exact g
end CA
end
section
section MO
variable {md : MD} {d : Nat} {scr : Option (Nat × (Nat → Int))} {Q : Option Int → AH → Prop} {pc : Nat} {ls : List (Option AV)} {st : List AV} {h : AH} {k : Nat × Nat}
theorem aw_invS {md' : MD} {idx n : Nat} {as : List AV} (hd : decode md.2.1 pc = .ok (.invokestatic idx, 3)) (hm : MO md' n) (hi : Cond.static md'.1 ∈ tbG) (hl : Cond.methodLink md.1.cls idx md'.1 ∈ tbG) (hC : md'.1.cls = md.1.cls) (hn : as.length = n) (hd1 : 1 ≤ d) (hst8 : st.length ≤ 8)
    (h1 : k.1 + md'.2.2.2.2.1 ≤ md.2.2.2.2.1) (h2 : k.2 + md'.2.2.2.2.2 ≤ md.2.2.2.2.2)
    (hM : AM (d - 1) md' as h (fun r h' => AW md d scr Q (pc + 3) ls ((r.map Sum.inl).toList ++ st) h' (k.1 + md'.2.2.2.2.1, k.2 + md'.2.2.2.2.2))) : AW md d scr Q pc ls (as.reverse ++ st) h k := by
  intro p l e R s m args below meth c b B D ca H locs lc Qw C hlen hH hL hst RH
  have hK := C.2.2.2.2.2.2.1
  have hts := C.2.2.2.2.1
  obtain ⟨hoas, host⟩ := ok_as hst
  have hfr := frames_ok (md := md') hd1 C.2.2.2.2.2.2.2.2.2.2.1 C.2.2.2.2.2.2.2.2.2.2.2.1 hm.2.2.2.1
  have hT : GoodIn tbG (wsS md.1.cls idx md'.1 (wmo md')) := by
    intro w hw
    rcases List.mem_append.mp hw with hw | hw
    · simp only [List.mem_cons, List.not_mem_nil, or_false] at hw
      rcases hw with rfl | rfl | rfl
      · exact goodG hl
      · exact goodG hi
      · exact goodG (hC ▸ hm.1)
    · exact good_wmo hm w hw
  refine q_call (rest := st.map (cv b B)) (va_runS (As := as.map (cv b B)) ⟨C.1, C.2.1, C.2.2.1, C.2.2.2.1, hts⟩ (hM l b B D ca hoas) (cwS n hts hT rfl rfl rfl ⟨hC, hm.2.2.1⟩ hfr) (prc_S hH.1 hK C.2.2.2.2.2.2.2.1.2) rfl (by rw [List.length_map]; exact hn) (by show lc.size = _; rw [hL.1.1, hlen]) (by simp) (lv_room (by rw [st_cat]; exact hst8)) hd ⟨by rw [C.2.2.2.2.2.2.2.2.1]; exact h1, by rw [C.2.2.2.2.2.2.2.2.2.1]; exact h2⟩) hH.2 fun r h' H1 locs1 hrg hq hH1 => ?_
  have g := hq p l e R s m args below meth c b B D ca H1 locs1 lc Qw C hlen hH1 hL (ok_res hrg host) RH
  rw [res_map] at g
  exact g
/-- a static method of a nest mate -/
theorem aw_invSN {md' : MD} {idx n : Nat} {host : String} {as : List AV} (hd : decode md.2.1 pc = .ok (.invokestatic idx, 3)) (hm : MO md' n) (hi : Cond.static md'.1 ∈ tbG) (hl : (md.1.cls, idx, md'.1, host) ∈ nsL) (hn : as.length = n) (hd1 : 1 ≤ d) (hst8 : st.length ≤ 8)
    (h1 : k.1 + md'.2.2.2.2.1 ≤ md.2.2.2.2.1) (h2 : k.2 + md'.2.2.2.2.2 ≤ md.2.2.2.2.2)
    (hM : AM (d - 1) md' as h (fun r h' => AW md d scr Q (pc + 3) ls ((r.map Sum.inl).toList ++ st) h' (k.1 + md'.2.2.2.2.1, k.2 + md'.2.2.2.2.2))) : AW md d scr Q pc ls (as.reverse ++ st) h k := by
  intro p l e R s m args below meth c b B D ca H locs lc Qw C hlen hH hL hst RH
  have hK := C.2.2.2.2.2.2.1
  have hts := C.2.2.2.2.1
  obtain ⟨hoas, host'⟩ := ok_as hst
  have hfr := frames_ok (md := md') hd1 C.2.2.2.2.2.2.2.2.2.2.1 C.2.2.2.2.2.2.2.2.2.2.2.1 hm.2.2.2.1
  refine q_call (rest := st.map (cv b B)) (va_runSN (As := as.map (cv b B)) ⟨C.1, C.2.1, C.2.2.1, C.2.2.2.1, hts⟩ (hM l b B D ca hoas) ⟨va_cnB (host := host) n hts (good_wmo hm) rfl rfl rfl (C.2.2.2.2.2.2.2.1.2.1 _ hl) (hts _ hm.1) hm.2.2.1 hfr, hts _ hi, trivial⟩ (prc_S hH.1 hK C.2.2.2.2.2.2.2.1.2) rfl (by rw [List.length_map]; exact hn) (by show lc.size = _; rw [hL.1.1, hlen]) (by simp) (lv_room (by rw [st_cat]; exact hst8)) hd ⟨by rw [C.2.2.2.2.2.2.2.2.1]; exact h1, by rw [C.2.2.2.2.2.2.2.2.2.1]; exact h2⟩) hH.2 fun r h' H1 locs1 hrg hq hH1 => ?_
  have g := hq p l e R s m args below meth c b B D ca H1 locs1 lc Qw C hlen hH1 hL (ok_res hrg host') RH
  rw [res_map] at g
  exact g
theorem az_ref {b B i : Nat} : cv b B (.inr (some (i + 1))) = .ref (B + i) := rfl
/-- a constructor -/
theorem aw_invI {md' : MD} {idx n j : Nat} {as : List AV} (hd : decode md.2.1 pc = .ok (.invokespecial idx, 3)) (hm : MO md' n) (hret : md'.2.2.2.1 = none) (hi : Cond.instanceMethod md'.1 ∈ tbG) (hy1 : md'.1.name = "<init>") (hl : Cond.methodLink md.1.cls idx md'.1 ∈ tbG ∨ ∃ host, (md.1.cls, idx, md'.1, host) ∈ nsL) (hn : as.length = n) (hd1 : 1 ≤ d) (hst8 : st.length ≤ 8)
    (h1 : k.1 + md'.2.2.2.2.1 ≤ md.2.2.2.2.1) (h2 : k.2 + md'.2.2.2.2.2 ≤ md.2.2.2.2.2)
    (hM : AM (d - 1) md' (.inr (some (j + 1)) :: as) h (fun r h' => AW md d scr Q (pc + 3) ls ((r.map Sum.inl).toList ++ st) h' (k.1 + md'.2.2.2.2.1, k.2 + md'.2.2.2.2.2))) : AW md d scr Q pc ls (as.reverse ++ .inr (some (j + 1)) :: st) h k := by
  intro p l e R s m args below meth c b B D ca H locs lc Qw C hlen hH hL hst RH
  have hK := C.2.2.2.2.2.2.1
  have hts := C.2.2.2.2.1
  obtain ⟨hoas, host'⟩ := ok_as hst
  have hfr := frames_ok (md := md') hd1 C.2.2.2.2.2.2.2.2.2.2.1 C.2.2.2.2.2.2.2.2.2.2.2.1 hm.2.2.2.1
  have hcw : wmo md' = Cond.code md'.1 md'.2.1 md'.2.2.1 none :: tbG := by unfold wmo; rw [hret]
  have hfin : ∀ (hr : va_Run p l e R s m args below meth c H locs k.1 k.2 md'.2.2.2.2.1 md'.2.2.2.2.2 (F0 m pc lc ((as.reverse ++ .inr (some (j + 1)) :: st).map (cv b B))) (st.map (cv b B)) (Pst b B D ca (fun r h' => AW md d scr Q (pc + 3) ls ((r.map Sum.inl).toList ++ st) h' (k.1 + md'.2.2.2.2.1, k.2 + md'.2.2.2.2.2)) (Value.ref (B + j) :: as.map (cv b B)).toArray) (fun q => B ≤ q)), W p l e R s m args below meth c H locs k.1 k.2 Qw (F0 m pc lc ((as.reverse ++ .inr (some (j + 1)) :: st).map (cv b B))) := by
    intro hr
    refine q_call hr hH.2 fun r h' H1 locs1 hrg hq hH1 => ?_
    have g := hq p l e R s m args below meth c b B D ca H1 locs1 lc Qw C hlen hH1 hL (ok_res hrg (ok_tl host')) RH
    rw [res_map] at g
    exact g
  apply hfin
  have hM' := hM l b B D ca (ok_of trivial hoas)
  rw [hcw] at hM'
  have hG := good_wmo hm
  rw [hcw] at hG
  rcases hl with hl | ⟨host, hl⟩
  · exact va_runI (As := as.map (cv b B)) ⟨C.1, C.2.1, C.2.2.1, C.2.2.2.1, hts⟩ hM' (cwI n hts hG rfl rfl rfl (hts _ hm.1) (hts _ hl) (hts _ hi) hy1 hm.2.2.1 hfr) (prc_S (as := .inr (some (j + 1)) :: as) hH.1 hK C.2.2.2.2.2.2.2.1.2) rfl (by rw [List.length_map]; exact hn) (by show lc.size = _; rw [hL.1.1, hlen]) (by simp [cv, va_rf, az]) (lv_room (by rw [st_cat]; exact hst8)) hd ⟨by rw [C.2.2.2.2.2.2.2.2.1]; exact h1, by rw [C.2.2.2.2.2.2.2.2.2.1]; exact h2⟩
  · exact va_runIN (As := as.map (cv b B)) ⟨C.1, C.2.1, C.2.2.1, C.2.2.2.1, hts⟩ hM' ⟨va_cnB (host := host) n hts hG rfl rfl rfl (C.2.2.2.2.2.2.2.1.2.1 _ hl) (hts _ hm.1) hm.2.2.1 hfr, hy1, hts _ hi⟩ (prc_S (as := .inr (some (j + 1)) :: as) hH.1 hK C.2.2.2.2.2.2.2.1.2) rfl (by rw [List.length_map]; exact hn) (by show lc.size = _; rw [hL.1.1, hlen]) (by simp [cv, va_rf, az]) (lv_room (by rw [st_cat]; exact hst8)) hd ⟨by rw [C.2.2.2.2.2.2.2.2.1]; exact h1, by rw [C.2.2.2.2.2.2.2.2.2.1]; exact h2⟩
theorem aw_objInit {idx j : Nat} (hd : decode md.2.1 pc = .ok (.invokespecial idx, 3)) (hl : Cond.methodLink md.1.cls idx objectInit ∈ tbG) (hi : Cond.instanceMethod objectInit ∈ tbG) (hc : Cond.code objectInit ⟨#[0xb1]⟩ 1 none ∈ tbG) (hd1 : 1 ≤ d) (hst8 : st.length ≤ 8) (kk : AW md d scr Q (pc + 3) ls st h k) : AW md d scr Q pc ls (.inr (some (j + 1)) :: st) h k := by
  intro p l e R s m args below meth c b B D ca H locs lc Qw C hlen hH hL hst RH
  have hts := C.2.2.2.2.1
  have h10 := C.2.2.2.2.2.2.2.2.2.2.1
  have h11 := C.2.2.2.2.2.2.2.2.2.2.2.1
  refine W.objInit C.1 C.2.1 C.2.2.2.1 (hts _ hl) (hts _ hi) (hts _ hc) rfl (by show lc.size = _; rw [hL.1.1, hlen, C.2.2.1]) (rest := st.map (cv b B)) rfl hd (by omega) (by show 2 * 0 + _ + 12 ≤ _; rw [st_cat]; omega) ?_
  exact kk p l e R s m args below meth c b B D ca H locs lc Qw C hlen hH hL (ok_tl hst) RH
theorem aw_max {idx : Nat} {x y : Int} (hd : decode md.2.1 pc = .ok (.invokestatic idx, 3)) (hl : Cond.methodLink md.1.cls idx Lib.Math.max.name ∈ tbG) (hs : Cond.static Lib.Math.max.name ∈ tbG) (hi : Cond.initialized "java/lang/Math" ∈ tbG) (hc : Cond.code Lib.Math.max.name Lib.Math.max.code 2 (some .int) ∈ tbG) (hd1 : 1 ≤ d) (hst8 : st.length ≤ 8) (h1 : k.1 ≤ md.2.2.2.2.1) (h2 : k.2 ≤ md.2.2.2.2.2)
    (kk : AW md d scr Q (pc + 3) ls (.inl (if x < y then y else x) :: st) h k) : AW md d scr Q pc ls (.inl y :: .inl x :: st) h k := by
  intro p l e R s m args below meth c b B D ca H locs lc Qw C hlen hH hL hst RH
  have hts := C.2.2.2.2.1
  have h10 := C.2.2.2.2.2.2.2.2.2.2.1
  have h11 := C.2.2.2.2.2.2.2.2.2.2.2.1
  have hy : rg y := ok_hd hst
  have hx : rg x := ok_hd (ok_tl hst)
  refine va_mmax C.1 C.2.1 (by rw [hL.1.1, hlen, C.2.2.1]) C.2.2.2.1 (hts _ hl) (hts _ hs) (hts _ hi) (hts _ hc) (by omega) (by rw [st_cat]; omega) (by rw [C.2.2.2.2.2.2.2.2.1]; exact h1) (by rw [C.2.2.2.2.2.2.2.2.2.1]; exact h2) hd ?_
  have g := kk p l e R s m args below meth c b B D ca H locs lc Qw C hlen hH hL (ok_of (by split <;> assumption) (ok_tl (ok_tl hst))) RH
  have e1 : (if Int32.ofInt x < Int32.ofInt y then Int32.ofInt y else Int32.ofInt x) = Int32.ofInt (if x < y then y else x) := by
    by_cases q : x < y
    · rw [if_pos q, if_pos ((i_lt hx hy).mpr q)]
    · rw [if_neg q, if_neg (fun z => q ((i_lt hx hy).mp z))]
  rw [e1]
  exact g
theorem aw_min {idx : Nat} {x y : Int} (hd : decode md.2.1 pc = .ok (.invokestatic idx, 3)) (hl : Cond.methodLink md.1.cls idx Lib.Math.min.name ∈ tbG) (hs : Cond.static Lib.Math.min.name ∈ tbG) (hi : Cond.initialized "java/lang/Math" ∈ tbG) (hc : Cond.code Lib.Math.min.name Lib.Math.min.code 2 (some .int) ∈ tbG) (hd1 : 1 ≤ d) (hst8 : st.length ≤ 8) (h1 : k.1 ≤ md.2.2.2.2.1) (h2 : k.2 ≤ md.2.2.2.2.2)
    (kk : AW md d scr Q (pc + 3) ls (.inl (if y < x then y else x) :: st) h k) : AW md d scr Q pc ls (.inl y :: .inl x :: st) h k := by
  intro p l e R s m args below meth c b B D ca H locs lc Qw C hlen hH hL hst RH
  have hts := C.2.2.2.2.1
  have h10 := C.2.2.2.2.2.2.2.2.2.2.1
  have h11 := C.2.2.2.2.2.2.2.2.2.2.2.1
  have hy : rg y := ok_hd hst
  have hx : rg x := ok_hd (ok_tl hst)
  refine va_mmin C.1 C.2.1 (by rw [hL.1.1, hlen, C.2.2.1]) C.2.2.2.1 (hts _ hl) (hts _ hs) (hts _ hi) (hts _ hc) (by omega) (by rw [st_cat]; omega) (by rw [C.2.2.2.2.2.2.2.2.1]; exact h1) (by rw [C.2.2.2.2.2.2.2.2.2.1]; exact h2) hd ?_
  have g := kk p l e R s m args below meth c b B D ca H locs lc Qw C hlen hH hL (ok_of (by split <;> assumption) (ok_tl (ok_tl hst))) RH
  have e1 : (if Int32.ofInt y < Int32.ofInt x then Int32.ofInt y else Int32.ofInt x) = Int32.ofInt (if y < x then y else x) := by
    by_cases q : y < x
    · rw [if_pos q, if_pos ((i_lt hy hx).mpr q)]
    · rw [if_neg q, if_neg (fun z => q ((i_lt hy hx).mp z))]
  rw [e1]
  exact g
end MO
end
section
section BO
variable {md : MD} {d : Nat} {scr : Option (Nat × (Nat → Int))} {Q : Option Int → AH → Prop} {pc : Nat} {ls : List (Option AV)} {st : List AV} {h : AH} {k : Nat × Nat}
/-- a copied stretch of an array -/
def cpy (h : AH) (js jd : Nat) (sp dp n : Int) : AH := (h.1, h.2.1, h.2.2.1, fun a b => if a = jd ∧ dp ≤ b ∧ b < dp + n then h.2.2.2 js (sp + (b - dp)) else h.2.2.2 a b)
theorem hi_cpy {h : AH} {js jd : Nat} {sp dp n : Int} {a : Nat} {b : Int} : hi (cpy h js jd sp dp n) a b = if a = jd ∧ dp ≤ b ∧ b < dp + n then hi h js (sp + (b - dp)) else hi h a b := rfl
theorem hk_cpy {h : AH} {js jd : Nat} {sp dp n : Int} : hk (cpy h js jd sp dp n) = hk h := rfl
theorem hr_cpy {h : AH} {js jd : Nat} {sp dp n : Int} : hr (cpy h js jd sp dp n) = hr h := rfl
theorem aw_copy {idx js jd n0 n1 : Nat} {sp dp n : Int} (hd : decode md.2.1 pc = .ok (.invokestatic idx, 3)) (hl : Cond.methodLink md.1.cls idx arraycopyName ∈ tbG) (hnat : Cond.native arraycopyName ∈ tbG) (hs : Cond.static arraycopyName ∈ tbG) (hini : Cond.initialized "java/lang/System" ∈ tbG)
    (hx0 : hk h js = (1, n0)) (hx1 : hk h jd = (1, n1)) (h1 : 0 ≤ sp) (h2 : 0 ≤ dp) (h3 : 0 ≤ n) (h4 : sp + n ≤ n0) (h5 : dp + n ≤ n1) (hd1 : 1 ≤ d) (hst8 : st.length ≤ 8)
    (kk : AW md d scr Q (pc + 3) ls st (cpy h js jd sp dp n) k) : AW md d scr Q pc ls (.inl n :: .inl dp :: .inr (some jd) :: .inl sp :: .inr (some js) :: st) h k := by
  intro p l e R s m args below meth c b B D ca H locs lc Qw C hlen hH hL hst RH
  obtain ⟨⟨hsz, hP, ho⟩, hS⟩ := hH
  have hts := C.2.2.2.2.1
  have h10 := C.2.2.2.2.2.2.2.2.2.2.1
  have h11 := C.2.2.2.2.2.2.2.2.2.2.2.1
  obtain ⟨i0, rfl, hj0⟩ := okH_pos ho hx0 (by intro q; cases q)
  obtain ⟨i1, rfl, hj1⟩ := okH_pos ho hx1 (by intro q; cases q)
  have he0 := wso_at (b := b) (B := B) (ca := ca) hj0
  rw [enc_1 hx0] at he0
  have he1 := wso_at (b := b) (B := B) (ca := ca) hj1
  rw [enc_1 hx1] at he1
  have rn : rg n := ok_hd hst
  have rd : rg dp := ok_hd (ok_tl hst)
  have rs : rg sp := ok_hd (ok_tl (ok_tl (ok_tl hst)))
  have cn := cl_nat rn h3
  have cd := cl_nat rd h2
  have cs := cl_nat rs h1
  have hnw : nativeFrameWords "java/lang/System" "arraycopy" 5 ≤ 20 := by decide +kernel
  have hK := C.2.2.2.2.2.2.1
  intro T hT X
  have c0 : H[B + i0]? = some (vp_cell (ca 1) (n0, .inl fun q : Nat => Int32.ofInt (hi h (i0 + 1) q))) := hP i0 _ he0
  have c1 : H[B + i1]? = some (vp_cell (ca 1) (n1, .inl fun q : Nat => Int32.ofInt (hi h (i1 + 1) q))) := hP i1 _ he1
  obtain ⟨-, kA, hkA, cm, hkk⟩ := (hK.2 0 _ rfl).1 n0 (fun q => .int (Int32.ofInt (hi h (i0 + 1) q)))
  have tin : (Int32.ofInt n).toInt = n := ti rn
  have tis : (Int32.ofInt sp).toInt = sp := ti rs
  have tid : (Int32.ofInt dp).toInt = dp := ti rd
  obtain ⟨vm', X', step⟩ := X.arraycopy C.1 C.2.2.2.1 (hts _ hl) (hts _ hnat) (hts _ hs) (hts _ hini) (src := B + i0) (dst := B + i1) (cs := vp_cell (ca 1) (n0, .inl fun q : Nat => Int32.ofInt (hi h (i0 + 1) q))) (cd := vp_cell (ca 1) (n1, .inl fun q : Nat => Int32.ofInt (hi h (i1 + 1) q))) (srcPos := Int32.ofInt sp) (destPos := Int32.ofInt dp) (n := Int32.ofInt n) (by rw [hT]; exact c0) (by rw [hT]; exact c1)
    (fun _ z => by cases z) (fun _ z => by cases z) (fun z => by cases z) (fun z => by cases z) hkA hkA hkk hkk (by simp [refKind]) (fun q => by have := (i_lt rs rg0).mp q; omega) (fun q => by have := (i_lt rd rg0).mp q; omega) (fun q => by have := (i_lt rn rg0).mp q; omega)
    (by rw [tis, tin]; show ¬ _ > ((arrV (ca 1) n0 _).slots.size : Int); rw [arrV_size]; omega) (by rw [tid, tin]; show ¬ _ > ((arrV (ca 1) n1 _).slots.size : Int); rw [arrV_size]; omega)
    (fun vm₁ _ i hin => by
      have ee : (vp_cell (ca 1) (n0, .inl fun q : Nat => Int32.ofInt (hi h (i0 + 1) q))).slots.getD ((Int32.ofInt sp).toNatClampNeg + i) .null = .int (Int32.ofInt (hi h (i0 + 1) (((Int32.ofInt sp).toNatClampNeg + i : Nat) : Int))) := by
        show (arrV (ca 1) n0 _).slots.getD _ _ = _
        rw [Array.getD_eq_getD_getElem?, arrV_read _ _ (by rw [cn] at hin; omega)]
        rfl
      refine ⟨?_, ?_⟩
      · rw [ee]; rfl
      · rw [ee]; exact trivial)
    (g := F0 m pc lc (.int (Int32.ofInt n) :: .int (Int32.ofInt dp) :: .ref (B + i1) :: .int (Int32.ofInt sp) :: .ref (B + i0) :: st.map (cv b B))) rfl (by show lc.size = _; rw [hL.1.1, hlen, C.2.2.1]) (rest := st.map (cv b B)) rfl (by rw [C.2.1]; exact hd) (by omega) (by show 2 * 0 + _ + _ ≤ _; rw [st_cat]; omega)
  have e1 := va_copied (fun z : Int32 => Value.int z) (ca 1) (ca 1) (n0 := n0) (n1 := n1) (fun q : Nat => Int32.ofInt (hi h (i0 + 1) q)) (fun q : Nat => Int32.ofInt (hi h (i1 + 1) q)) (sp := (Int32.ofInt sp).toNatClampNeg) (dp := (Int32.ofInt dp).toNatClampNeg) (n := (Int32.ofInt n).toNatClampNeg) (by rw [cs, cn]; omega)
  have e2 : copied (vp_cell (ca 1) (n0, .inl fun q : Nat => Int32.ofInt (hi h (i0 + 1) q))) (vp_cell (ca 1) (n1, .inl fun q : Nat => Int32.ofInt (hi h (i1 + 1) q))) (Int32.ofInt sp) (Int32.ofInt dp) (Int32.ofInt n) = vp_cell (ca 1) (n1, .inl fun q : Nat => Int32.ofInt (hi (cpy h (i0 + 1) (i1 + 1) sp dp n) (i1 + 1) q)) := by
    refine Eq.trans e1 ?_
    rw [cs, cd, cn, vp_cell_i]
    congr 1
    funext q
    simp only [va_cpy, hi_cpy, true_and]
    by_cases hq : dp.toNat ≤ q ∧ q < dp.toNat + n.toNat
    · rw [if_pos hq, if_pos (by omega)]
      congr 3
      omega
    · rw [if_neg hq, if_neg (by omega)]
  rw [e2] at X' step
  have hl' : B + i1 < H.size := (Array.getElem?_eq_some_iff.mp c1).1
  generalize hN : vp_cell (ca 1) (n1, .inl fun q : Nat => Int32.ofInt (hi (cpy h (i0 + 1) (i1 + 1) sp dp n) (i1 + 1) q)) = new at X' step
  have hheap : ((T.setVm vm').setCell (B + i1) new).heap = H.setIfInBounds (B + i1) new := by rw [← hT]; rfl
  have hHR : HR b B D ca s.heap (cpy h (i0 + 1) (i1 + 1) sp dp n) (H.setIfInBounds (B + i1) new) (locs ++ [⟨B + i1, 0⟩]) :=
    HR_arr ⟨⟨hsz, hP, ho⟩, hS⟩ hj1 he1 rfl
      (fun x hx' => enc_cong rfl (fun _ => rfl) (fun q => by rw [hi_cpy, if_neg (fun z => hx' z.1)])) (enc_1 hx1)
      ⟨fun a z => by rw [hi_cpy]; split <;> exact ho.1 _ _, ho.2⟩ (by rw [hN]; simp [Array.getElem?_setIfInBounds, hl']) (by simp) (fun q hq => by simp [Array.getElem?_setIfInBounds, Ne.symm hq])
  obtain ⟨t, a1, b1⟩ := kk p l e R s m args below meth c b B D ca _ _ lc Qw C hlen
    ⟨hHR.1, hHR.2.1, hHR.2.2.1, fun q hq => by
      rcases List.mem_append.mp hq with g | g
      · exact hS.2.2 q g
      · obtain ⟨z, -, hz⟩ := List.mem_map.mp g
        rw [← hz]
        exact Nat.le_add_right B i1⟩ hL (ok_tl (ok_tl (ok_tl (ok_tl (ok_tl hst))))) RH _ hheap X'
  exact ⟨t, step t a1, b1⟩
theorem lpr_args {b B : Nat} : ∀ (as : List AV) (i : Nat), lv_args i (as.map (cv b B)) = lpr b B i (as.map some)
  | [], i => rfl
  | a :: t, i => by
    show (i, cv b B a) :: lv_args (if (cv b B a).category = 2 then i + 2 else i + 1) (t.map (cv b B)) = (i, cv b B a) :: lpr b B (i + 1) (t.map some)
    rw [if_neg (by rw [cv_cat]; decide), lpr_args t (i + 1)]
theorem lpr_app {b B : Nat} : ∀ (t u : List (Option AV)) (i : Nat), lpr b B i (t ++ u) = lpr b B i t ++ lpr b B (i + t.length) u
  | [], u, i => rfl
  | none :: t, u, i => by
    show lpr b B (i + 1) (t ++ u) = lpr b B (i + 1) t ++ lpr b B (i + (t.length + 1)) u
    rw [lpr_app t u (i + 1), show i + 1 + t.length = i + (t.length + 1) by omega]
  | some a :: t, u, i => by
    show (i, cv b B a) :: lpr b B (i + 1) (t ++ u) = (i, cv b B a) :: (lpr b B (i + 1) t ++ lpr b B (i + (t.length + 1)) u)
    rw [lpr_app t u (i + 1), show i + 1 + t.length = i + (t.length + 1) by omega]
theorem lpr_none {b B : Nat} : ∀ (n i : Nat), lpr b B i (List.replicate n none) = []
  | 0, i => rfl
  | n + 1, i => lpr_none n (i + 1)
theorem lg_sl_cv {b B : Nat} (as : List AV) : (lg_sl (as.map (cv b B))).length = as.length := by
  induction as with
  | nil => rfl
  | cons a t ih =>
    simp only [lg_sl, List.map_cons, List.flatMap_cons, cv_cat, List.length_append, List.length_cons] at ih ⊢
    simp at ih ⊢
    omega
theorem am_body {n : Nat} {as : List AV} (hm : MO md n) (hl : as.length ≤ md.2.2.1) (hB : AW md d none Q 0 (as.map some ++ List.replicate (md.2.2.1 - as.length) none) [] h (0, 0)) : AM d md as h Q := by
  intro l b B D ca has
  refine Met.ofW (cc := md.2.1) (maxL := md.2.2.1) (ret := md.2.2.2.1) hm.2.2.2.2 rfl ?_
  intro p e s m args below meth c s₁ BB hml hv
  obtain ⟨rfl, hHP, hK, hN⟩ := hv
  have hts := atoms_spec (ws := wmo md) BB.pre
  have hlocks := BB.notSynchronized
  have hent := lv_entry (as.map (cv b B)) (n := md.2.2.1) (by rw [lg_sl_cv]; exact hl)
  rw [lg_entry_eq]
  rw [lpr_args] at hent
  generalize (lg_sl (as.map (cv b B)) ++ List.replicate (md.2.2.1 - (lg_sl (as.map (cv b B))).length) Slot.unset).toArray = lc at hent ⊢
  have hlen : (as.map some ++ List.replicate (md.2.2.1 - as.length) (none : Option AV)).length = md.2.2.1 := by simp; omega
  have hLR : LR b B (as.map some ++ List.replicate (md.2.2.1 - as.length) none) lc := by
    refine ⟨?_, fun k v hk => ?_⟩
    · rw [lpr_app, lpr_none, List.append_nil, hlen]
      exact hent
    · rcases List.mem_append.mp (List.mem_of_getElem? hk) with q | q
      · obtain ⟨x, hx, hx2⟩ := List.mem_map.mp q
        cases hx2
        exact has _ hx
      · have := List.eq_of_mem_replicate q
        cases this
  refine hB p l e (rmo d md) s m _ below meth c b B D ca s.heap [] lc _ ⟨BB.exec, BB.bytes, hml, findClass_of_methodNamed BB.named, fun w hw => hts w (List.mem_cons_of_mem _ hw), (name_of_methodNamed BB.named BB.method).1, hK, ⟨by rw [hHP.1]; exact Nat.le_add_right _ _, hN⟩, rfl, rfl, Nat.le_refl _, Nat.le_refl _, fun q hq => by cases hq⟩ hlen ⟨hHP, va_S.rf⟩ hLR (fun _ hx => by cases hx) ?_
  intro r pc' h' H' locs' lc' k' hH' hQ hk1 hk2
  cases r with
  | none =>
    intro hret hd
    refine W.widen hk1 hk2 ?_
    have hfin : ∀ t : State, t.heap = H' → s.WarmedH t.vm → Pst b B D ca Q (as.map (cv b B)).toArray s (.returned none) t := fun t ht hW => ⟨⟨none, h', rfl, (fun _ q => by cases q), hQ, by rw [ht]; exact hH'.1⟩, hH'.2.F ht⟩
    exact W.vret BB.exec BB.bytes (BB.returns.trans hret) hfin hH'.2.2.2 hd
  | some v =>
    intro hret hd
    refine W.widen hk1 hk2 ?_
    have hfin : ∀ t : State, t.heap = H' → s.WarmedH t.vm → Pst b B D ca Q (as.map (cv b B)).toArray s (.returned (some (.int (Int32.ofInt v)))) t := fun t ht hW => ⟨⟨some v, h', rfl, fun _ q => by cases q; exact okr_rg hret, hQ, by rw [ht]; exact hH'.1⟩, hH'.2.F ht⟩
    cases hty : md.2.2.2.1 with
    | none => rw [hty] at hret; exact absurd hret (by simp [okr])
    | some ty =>
      rw [hty] at hret
      exact W.zret (ty := ty) BB.exec BB.bytes (BB.returns.trans hty) (nar_i hret b B).1 hfin hH'.2.2.2 hd
theorem am_mono {as : List AV} {Q' : Option Int → AH → Prop} (hA : AM d md as h Q) (hq : ∀ r h', (∀ v, r = some v → rg v) → okH h' → Q r h' → Q' r h') : AM d md as h Q' := by
  intro l b B D ca has p e ha hc hkk s m args below hf hfit hheap happ
  obtain ⟨n, o, h1, h2, h3, ⟨⟨r, h', e1, e2, e3, e4⟩, hF⟩, hfr⟩ := hA l b B D ca has p e ha hc hkk s m args below hf hfit hheap happ
  exact ⟨n, o, h1, h2, h3, ⟨⟨r, h', e1, e2, hq r h' e2 e4.2.2 e3, e4⟩, hF⟩, hfr⟩
theorem am_ok {as : List AV} (kk : okH h → (∀ a ∈ as, ok a) → AM d md as h Q) : AM d md as h Q := by
  intro l b B D ca has p e ha hc hkk s m args below hf hfit hheap happ
  exact kk hheap.2.1.2.2 has l b B D ca has p e ha hc hkk s m args below hf hfit hheap happ
end BO
end
