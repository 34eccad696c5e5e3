theorem dX0_init_0 : decode cX0_init 0 = .ok (.aload_n 0, 1) := by decide +kernel
theorem dX0_init_1 : decode cX0_init 1 = .ok (.invokespecial 3, 3) := by decide +kernel
theorem dX0_init_4 : decode cX0_init 4 = .ok (.aload_n 0, 1) := by decide +kernel
theorem dX0_init_5 : decode cX0_init 5 = .ok (.iconst 4, 1) := by decide +kernel
theorem dX0_init_6 : decode cX0_init 6 = .ok (.anewarray 9, 3) := by decide +kernel
theorem dX0_init_9 : decode cX0_init 9 = .ok (.putfield 11, 3) := by decide +kernel
theorem dX0_init_12 : decode cX0_init 12 = .ok (.aload_n 0, 1) := by decide +kernel
theorem dX0_init_13 : decode cX0_init 13 = .ok (.iconst 0, 1) := by decide +kernel
theorem dX0_init_14 : decode cX0_init 14 = .ok (.putfield 17, 3) := by decide +kernel
theorem dX0_init_17 : decode cX0_init 17 = .ok (.iconst 0, 1) := by decide +kernel
theorem dX0_init_18 : decode cX0_init 18 = .ok (.istore_n 1, 1) := by decide +kernel
theorem dX0_init_19 : decode cX0_init 19 = .ok (.iload_n 1, 1) := by decide +kernel
theorem dX0_init_20 : decode cX0_init 20 = .ok (.iconst 4, 1) := by decide +kernel
theorem dX0_init_21 : decode cX0_init 21 = .ok (.if_icmp .ge 22, 3) := by decide +kernel
theorem dX0_init_24 : decode cX0_init 24 = .ok (.aload_n 0, 1) := by decide +kernel
theorem dX0_init_25 : decode cX0_init 25 = .ok (.getfield 11, 3) := by decide +kernel
theorem dX0_init_28 : decode cX0_init 28 = .ok (.iload_n 1, 1) := by decide +kernel
theorem dX0_init_29 : decode cX0_init 29 = .ok (.new 9, 3) := by decide +kernel
theorem dX0_init_32 : decode cX0_init 32 = .ok (.dup, 1) := by decide +kernel
theorem dX0_init_33 : decode cX0_init 33 = .ok (.invokespecial 21, 3) := by decide +kernel
theorem dX0_init_36 : decode cX0_init 36 = .ok (.aastore, 1) := by decide +kernel
theorem dX0_init_37 : decode cX0_init 37 = .ok (.iinc 1 1, 3) := by decide +kernel
theorem dX0_init_40 : decode cX0_init 40 = .ok (.goto (-21), 3) := by decide +kernel
theorem dX0_init_43 : decode cX0_init 43 = .ok (.return_, 1) := by decide +kernel
theorem dX0_states_0 : decode cX0_states 0 = .ok (.aload_n 0, 1) := by decide +kernel
theorem dX0_states_1 : decode cX0_states 1 = .ok (.getfield 17, 3) := by decide +kernel
theorem dX0_states_4 : decode cX0_states 4 = .ok (.ireturn, 1) := by decide +kernel
theorem dX0_add_0 : decode cX0_add 0 = .ok (.aload_n 0, 1) := by decide +kernel
theorem dX0_add_1 : decode cX0_add 1 = .ok (.getfield 17, 3) := by decide +kernel
theorem dX0_add_4 : decode cX0_add 4 = .ok (.iconst 4, 1) := by decide +kernel
theorem dX0_add_5 : decode cX0_add 5 = .ok (.if_icmp .lt 7, 3) := by decide +kernel
theorem dX0_add_8 : decode cX0_add 8 = .ok (.aload_n 0, 1) := by decide +kernel
theorem dX0_add_9 : decode cX0_add 9 = .ok (.invokevirtual 22, 3) := by decide +kernel
theorem dX0_add_12 : decode cX0_add 12 = .ok (.aload_n 0, 1) := by decide +kernel
theorem dX0_add_13 : decode cX0_add 13 = .ok (.getfield 17, 3) := by decide +kernel
theorem dX0_add_16 : decode cX0_add 16 = .ok (.ifCond .lt 46, 3) := by decide +kernel
theorem dX0_add_19 : decode cX0_add 19 = .ok (.aload_n 0, 1) := by decide +kernel
theorem dX0_add_20 : decode cX0_add 20 = .ok (.getfield 17, 3) := by decide +kernel
theorem dX0_add_23 : decode cX0_add 23 = .ok (.iconst 4, 1) := by decide +kernel
theorem dX0_add_24 : decode cX0_add 24 = .ok (.if_icmp .ge 38, 3) := by decide +kernel
theorem dX0_add_27 : decode cX0_add 27 = .ok (.aload_n 0, 1) := by decide +kernel
theorem dX0_add_28 : decode cX0_add 28 = .ok (.getfield 11, 3) := by decide +kernel
theorem dX0_add_31 : decode cX0_add 31 = .ok (.aload_n 0, 1) := by decide +kernel
theorem dX0_add_32 : decode cX0_add 32 = .ok (.getfield 17, 3) := by decide +kernel
theorem dX0_add_35 : decode cX0_add 35 = .ok (.aaload, 1) := by decide +kernel
theorem dX0_add_36 : decode cX0_add 36 = .ok (.ifnull 26, 3) := by decide +kernel
theorem dX0_add_39 : decode cX0_add 39 = .ok (.aload_n 0, 1) := by decide +kernel
theorem dX0_add_40 : decode cX0_add 40 = .ok (.getfield 11, 3) := by decide +kernel
theorem dX0_add_43 : decode cX0_add 43 = .ok (.aload_n 0, 1) := by decide +kernel
theorem dX0_add_44 : decode cX0_add 44 = .ok (.getfield 17, 3) := by decide +kernel
theorem dX0_add_47 : decode cX0_add 47 = .ok (.aaload, 1) := by decide +kernel
theorem dX0_add_48 : decode cX0_add 48 = .ok (.aload_n 1, 1) := by decide +kernel
theorem dX0_add_49 : decode cX0_add 49 = .ok (.invokevirtual 25, 3) := by decide +kernel
theorem dX0_add_52 : decode cX0_add 52 = .ok (.aload_n 0, 1) := by decide +kernel
theorem dX0_add_53 : decode cX0_add 53 = .ok (.dup, 1) := by decide +kernel
theorem dX0_add_54 : decode cX0_add 54 = .ok (.getfield 17, 3) := by decide +kernel
theorem dX0_add_57 : decode cX0_add 57 = .ok (.iconst 1, 1) := by decide +kernel
theorem dX0_add_58 : decode cX0_add 58 = .ok (.iadd, 1) := by decide +kernel
theorem dX0_add_59 : decode cX0_add 59 = .ok (.putfield 17, 3) := by decide +kernel
theorem dX0_add_62 : decode cX0_add 62 = .ok (.return_, 1) := by decide +kernel
theorem dX0_dropOldest_0 : decode cX0_dropOldest 0 = .ok (.aload_n 0, 1) := by decide +kernel
theorem dX0_dropOldest_1 : decode cX0_dropOldest 1 = .ok (.getfield 11, 3) := by decide +kernel
theorem dX0_dropOldest_4 : decode cX0_dropOldest 4 = .ok (.iconst 0, 1) := by decide +kernel
theorem dX0_dropOldest_5 : decode cX0_dropOldest 5 = .ok (.aaload, 1) := by decide +kernel
theorem dX0_dropOldest_6 : decode cX0_dropOldest 6 = .ok (.astore_n 1, 1) := by decide +kernel
theorem dX0_dropOldest_7 : decode cX0_dropOldest 7 = .ok (.iconst 1, 1) := by decide +kernel
theorem dX0_dropOldest_8 : decode cX0_dropOldest 8 = .ok (.istore_n 2, 1) := by decide +kernel
theorem dX0_dropOldest_9 : decode cX0_dropOldest 9 = .ok (.iload_n 2, 1) := by decide +kernel
theorem dX0_dropOldest_10 : decode cX0_dropOldest 10 = .ok (.iconst 4, 1) := by decide +kernel
theorem dX0_dropOldest_11 : decode cX0_dropOldest 11 = .ok (.if_icmp .ge 23, 3) := by decide +kernel
theorem dX0_dropOldest_14 : decode cX0_dropOldest 14 = .ok (.aload_n 0, 1) := by decide +kernel
theorem dX0_dropOldest_15 : decode cX0_dropOldest 15 = .ok (.getfield 11, 3) := by decide +kernel
theorem dX0_dropOldest_18 : decode cX0_dropOldest 18 = .ok (.iload_n 2, 1) := by decide +kernel
theorem dX0_dropOldest_19 : decode cX0_dropOldest 19 = .ok (.iconst 1, 1) := by decide +kernel
theorem dX0_dropOldest_20 : decode cX0_dropOldest 20 = .ok (.isub, 1) := by decide +kernel
theorem dX0_dropOldest_21 : decode cX0_dropOldest 21 = .ok (.aload_n 0, 1) := by decide +kernel
theorem dX0_dropOldest_22 : decode cX0_dropOldest 22 = .ok (.getfield 11, 3) := by decide +kernel
theorem dX0_dropOldest_25 : decode cX0_dropOldest 25 = .ok (.iload_n 2, 1) := by decide +kernel
theorem dX0_dropOldest_26 : decode cX0_dropOldest 26 = .ok (.aaload, 1) := by decide +kernel
theorem dX0_dropOldest_27 : decode cX0_dropOldest 27 = .ok (.aastore, 1) := by decide +kernel
theorem dX0_dropOldest_28 : decode cX0_dropOldest 28 = .ok (.iinc 2 1, 3) := by decide +kernel
theorem dX0_dropOldest_31 : decode cX0_dropOldest 31 = .ok (.goto (-22), 3) := by decide +kernel
theorem dX0_dropOldest_34 : decode cX0_dropOldest 34 = .ok (.aload_n 0, 1) := by decide +kernel
theorem dX0_dropOldest_35 : decode cX0_dropOldest 35 = .ok (.getfield 11, 3) := by decide +kernel
theorem dX0_dropOldest_38 : decode cX0_dropOldest 38 = .ok (.iconst 3, 1) := by decide +kernel
theorem dX0_dropOldest_39 : decode cX0_dropOldest 39 = .ok (.aload_n 1, 1) := by decide +kernel
theorem dX0_dropOldest_40 : decode cX0_dropOldest 40 = .ok (.aastore, 1) := by decide +kernel
theorem dX0_dropOldest_41 : decode cX0_dropOldest 41 = .ok (.aload_n 0, 1) := by decide +kernel
theorem dX0_dropOldest_42 : decode cX0_dropOldest 42 = .ok (.iconst 3, 1) := by decide +kernel
theorem dX0_dropOldest_43 : decode cX0_dropOldest 43 = .ok (.putfield 17, 3) := by decide +kernel
theorem dX0_dropOldest_46 : decode cX0_dropOldest 46 = .ok (.return_, 1) := by decide +kernel
theorem dX0_backTo_0 : decode cX0_backTo 0 = .ok (.aload_n 1, 1) := by decide +kernel
theorem dX0_backTo_1 : decode cX0_backTo 1 = .ok (.ifnull 19, 3) := by decide +kernel
theorem dX0_backTo_4 : decode cX0_backTo 4 = .ok (.aload_n 0, 1) := by decide +kernel
theorem dX0_backTo_5 : decode cX0_backTo 5 = .ok (.getfield 17, 3) := by decide +kernel
theorem dX0_backTo_8 : decode cX0_backTo 8 = .ok (.iconst 1, 1) := by decide +kernel
theorem dX0_backTo_9 : decode cX0_backTo 9 = .ok (.if_icmp .lt 11, 3) := by decide +kernel
theorem dX0_backTo_12 : decode cX0_backTo 12 = .ok (.aload_n 0, 1) := by decide +kernel
theorem dX0_backTo_13 : decode cX0_backTo 13 = .ok (.getfield 17, 3) := by decide +kernel
theorem dX0_backTo_16 : decode cX0_backTo 16 = .ok (.iconst 4, 1) := by decide +kernel
theorem dX0_backTo_17 : decode cX0_backTo 17 = .ok (.if_icmp .le 6, 3) := by decide +kernel
theorem dX0_backTo_20 : decode cX0_backTo 20 = .ok (.bipush (-5), 2) := by decide +kernel
theorem dX0_backTo_22 : decode cX0_backTo 22 = .ok (.ireturn, 1) := by decide +kernel
theorem dX0_backTo_23 : decode cX0_backTo 23 = .ok (.aload_n 0, 1) := by decide +kernel
theorem dX0_backTo_24 : decode cX0_backTo 24 = .ok (.dup, 1) := by decide +kernel
theorem dX0_backTo_25 : decode cX0_backTo 25 = .ok (.getfield 17, 3) := by decide +kernel
theorem dX0_backTo_28 : decode cX0_backTo 28 = .ok (.iconst 1, 1) := by decide +kernel
theorem dX0_backTo_29 : decode cX0_backTo 29 = .ok (.isub, 1) := by decide +kernel
theorem dX0_backTo_30 : decode cX0_backTo 30 = .ok (.putfield 17, 3) := by decide +kernel
theorem dX0_backTo_33 : decode cX0_backTo 33 = .ok (.aload_n 1, 1) := by decide +kernel
theorem dX0_backTo_34 : decode cX0_backTo 34 = .ok (.aload_n 0, 1) := by decide +kernel
theorem dX0_backTo_35 : decode cX0_backTo 35 = .ok (.getfield 11, 3) := by decide +kernel
theorem dX0_backTo_38 : decode cX0_backTo 38 = .ok (.aload_n 0, 1) := by decide +kernel
theorem dX0_backTo_39 : decode cX0_backTo 39 = .ok (.getfield 17, 3) := by decide +kernel
theorem dX0_backTo_42 : decode cX0_backTo 42 = .ok (.aaload, 1) := by decide +kernel
theorem dX0_backTo_43 : decode cX0_backTo 43 = .ok (.invokevirtual 25, 3) := by decide +kernel
theorem dX0_backTo_46 : decode cX0_backTo 46 = .ok (.aload_n 0, 1) := by decide +kernel
theorem dX0_backTo_47 : decode cX0_backTo 47 = .ok (.getfield 17, 3) := by decide +kernel
theorem dX0_backTo_50 : decode cX0_backTo 50 = .ok (.ireturn, 1) := by decide +kernel
theorem dX1_init_0 : decode cX1_init 0 = .ok (.aload_n 0, 1) := by decide +kernel
theorem dX1_init_1 : decode cX1_init 1 = .ok (.invokespecial 3, 3) := by decide +kernel
theorem dX1_init_4 : decode cX1_init 4 = .ok (.aload_n 0, 1) := by decide +kernel
theorem dX1_init_5 : decode cX1_init 5 = .ok (.bipush 20, 2) := by decide +kernel
theorem dX1_init_7 : decode cX1_init 7 = .ok (.newarray .int, 2) := by decide +kernel
theorem dX1_init_9 : decode cX1_init 9 = .ok (.putfield 9, 3) := by decide +kernel
theorem dX1_init_12 : decode cX1_init 12 = .ok (.aload_n 0, 1) := by decide +kernel
theorem dX1_init_13 : decode cX1_init 13 = .ok (.bipush 20, 2) := by decide +kernel
theorem dX1_init_15 : decode cX1_init 15 = .ok (.newarray .int, 2) := by decide +kernel
theorem dX1_init_17 : decode cX1_init 17 = .ok (.putfield 15, 3) := by decide +kernel
theorem dX1_init_20 : decode cX1_init 20 = .ok (.aload_n 0, 1) := by decide +kernel
theorem dX1_init_21 : decode cX1_init 21 = .ok (.bipush 20, 2) := by decide +kernel
theorem dX1_init_23 : decode cX1_init 23 = .ok (.newarray .int, 2) := by decide +kernel
theorem dX1_init_25 : decode cX1_init 25 = .ok (.putfield 18, 3) := by decide +kernel
theorem dX1_init_28 : decode cX1_init 28 = .ok (.aload_n 0, 1) := by decide +kernel
theorem dX1_init_29 : decode cX1_init 29 = .ok (.bipush 20, 2) := by decide +kernel
theorem dX1_init_31 : decode cX1_init 31 = .ok (.newarray .int, 2) := by decide +kernel
theorem dX1_init_33 : decode cX1_init 33 = .ok (.putfield 21, 3) := by decide +kernel
theorem dX1_init_36 : decode cX1_init 36 = .ok (.aload_n 0, 1) := by decide +kernel
theorem dX1_init_37 : decode cX1_init 37 = .ok (.bipush 20, 2) := by decide +kernel
theorem dX1_init_39 : decode cX1_init 39 = .ok (.newarray .boolean, 2) := by decide +kernel
theorem dX1_init_41 : decode cX1_init 41 = .ok (.putfield 24, 3) := by decide +kernel
theorem dX1_init_44 : decode cX1_init 44 = .ok (.aload_n 0, 1) := by decide +kernel
theorem dX1_init_45 : decode cX1_init 45 = .ok (.bipush 20, 2) := by decide +kernel
theorem dX1_init_47 : decode cX1_init 47 = .ok (.newarray .boolean, 2) := by decide +kernel
theorem dX1_init_49 : decode cX1_init 49 = .ok (.putfield 28, 3) := by decide +kernel
theorem dX1_init_52 : decode cX1_init 52 = .ok (.aload_n 0, 1) := by decide +kernel
theorem dX1_init_53 : decode cX1_init 53 = .ok (.iconst 0, 1) := by decide +kernel
theorem dX1_init_54 : decode cX1_init 54 = .ok (.putfield 31, 3) := by decide +kernel
theorem dX1_init_57 : decode cX1_init 57 = .ok (.return_, 1) := by decide +kernel
theorem dX1_copyFrom_0 : decode cX1_copyFrom 0 = .ok (.aload_n 1, 1) := by decide +kernel
theorem dX1_copyFrom_1 : decode cX1_copyFrom 1 = .ok (.ifnonnull 4, 3) := by decide +kernel
theorem dX1_copyFrom_4 : decode cX1_copyFrom 4 = .ok (.return_, 1) := by decide +kernel
theorem dX1_copyFrom_5 : decode cX1_copyFrom 5 = .ok (.aload_n 0, 1) := by decide +kernel
theorem dX1_copyFrom_6 : decode cX1_copyFrom 6 = .ok (.aload_n 1, 1) := by decide +kernel
theorem dX1_copyFrom_7 : decode cX1_copyFrom 7 = .ok (.getfield 31, 3) := by decide +kernel
theorem dX1_copyFrom_10 : decode cX1_copyFrom 10 = .ok (.putfield 31, 3) := by decide +kernel
theorem dX1_copyFrom_13 : decode cX1_copyFrom 13 = .ok (.iconst 0, 1) := by decide +kernel
theorem dX1_copyFrom_14 : decode cX1_copyFrom 14 = .ok (.istore_n 2, 1) := by decide +kernel
theorem dX1_copyFrom_15 : decode cX1_copyFrom 15 = .ok (.iload_n 2, 1) := by decide +kernel
theorem dX1_copyFrom_16 : decode cX1_copyFrom 16 = .ok (.aload_n 0, 1) := by decide +kernel
theorem dX1_copyFrom_17 : decode cX1_copyFrom 17 = .ok (.getfield 31, 3) := by decide +kernel
theorem dX1_copyFrom_20 : decode cX1_copyFrom 20 = .ok (.if_icmp .ge 63, 3) := by decide +kernel
theorem dX1_copyFrom_23 : decode cX1_copyFrom 23 = .ok (.iload_n 2, 1) := by decide +kernel
theorem dX1_copyFrom_24 : decode cX1_copyFrom 24 = .ok (.bipush 20, 2) := by decide +kernel
theorem dX1_copyFrom_26 : decode cX1_copyFrom 26 = .ok (.if_icmp .ge 57, 3) := by decide +kernel
theorem dX1_copyFrom_29 : decode cX1_copyFrom 29 = .ok (.aload_n 0, 1) := by decide +kernel
theorem dX1_copyFrom_30 : decode cX1_copyFrom 30 = .ok (.getfield 9, 3) := by decide +kernel
theorem dX1_copyFrom_33 : decode cX1_copyFrom 33 = .ok (.iload_n 2, 1) := by decide +kernel
theorem dX1_copyFrom_34 : decode cX1_copyFrom 34 = .ok (.aload_n 1, 1) := by decide +kernel
theorem dX1_copyFrom_35 : decode cX1_copyFrom 35 = .ok (.getfield 9, 3) := by decide +kernel
theorem dX1_copyFrom_38 : decode cX1_copyFrom 38 = .ok (.iload_n 2, 1) := by decide +kernel
theorem dX1_copyFrom_39 : decode cX1_copyFrom 39 = .ok (.iaload, 1) := by decide +kernel
theorem dX1_copyFrom_40 : decode cX1_copyFrom 40 = .ok (.iastore, 1) := by decide +kernel
theorem dX1_copyFrom_41 : decode cX1_copyFrom 41 = .ok (.aload_n 0, 1) := by decide +kernel
theorem dX1_copyFrom_42 : decode cX1_copyFrom 42 = .ok (.getfield 15, 3) := by decide +kernel
theorem dX1_copyFrom_45 : decode cX1_copyFrom 45 = .ok (.iload_n 2, 1) := by decide +kernel
theorem dX1_copyFrom_46 : decode cX1_copyFrom 46 = .ok (.aload_n 1, 1) := by decide +kernel
theorem dX1_copyFrom_47 : decode cX1_copyFrom 47 = .ok (.getfield 15, 3) := by decide +kernel
theorem dX1_copyFrom_50 : decode cX1_copyFrom 50 = .ok (.iload_n 2, 1) := by decide +kernel
theorem dX1_copyFrom_51 : decode cX1_copyFrom 51 = .ok (.iaload, 1) := by decide +kernel
theorem dX1_copyFrom_52 : decode cX1_copyFrom 52 = .ok (.iastore, 1) := by decide +kernel
theorem dX1_copyFrom_53 : decode cX1_copyFrom 53 = .ok (.aload_n 0, 1) := by decide +kernel
theorem dX1_copyFrom_54 : decode cX1_copyFrom 54 = .ok (.getfield 18, 3) := by decide +kernel
theorem dX1_copyFrom_57 : decode cX1_copyFrom 57 = .ok (.iload_n 2, 1) := by decide +kernel
theorem dX1_copyFrom_58 : decode cX1_copyFrom 58 = .ok (.aload_n 1, 1) := by decide +kernel
theorem dX1_copyFrom_59 : decode cX1_copyFrom 59 = .ok (.getfield 18, 3) := by decide +kernel
theorem dX1_copyFrom_62 : decode cX1_copyFrom 62 = .ok (.iload_n 2, 1) := by decide +kernel
theorem dX1_copyFrom_63 : decode cX1_copyFrom 63 = .ok (.iaload, 1) := by decide +kernel
theorem dX1_copyFrom_64 : decode cX1_copyFrom 64 = .ok (.iastore, 1) := by decide +kernel
theorem dX1_copyFrom_65 : decode cX1_copyFrom 65 = .ok (.aload_n 0, 1) := by decide +kernel
theorem dX1_copyFrom_66 : decode cX1_copyFrom 66 = .ok (.getfield 24, 3) := by decide +kernel
theorem dX1_copyFrom_69 : decode cX1_copyFrom 69 = .ok (.iload_n 2, 1) := by decide +kernel
theorem dX1_copyFrom_70 : decode cX1_copyFrom 70 = .ok (.aload_n 1, 1) := by decide +kernel
theorem dX1_copyFrom_71 : decode cX1_copyFrom 71 = .ok (.getfield 24, 3) := by decide +kernel
theorem dX1_copyFrom_74 : decode cX1_copyFrom 74 = .ok (.iload_n 2, 1) := by decide +kernel
theorem dX1_copyFrom_75 : decode cX1_copyFrom 75 = .ok (.baload, 1) := by decide +kernel
theorem dX1_copyFrom_76 : decode cX1_copyFrom 76 = .ok (.bastore, 1) := by decide +kernel
theorem dX1_copyFrom_77 : decode cX1_copyFrom 77 = .ok (.iinc 2 1, 3) := by decide +kernel
theorem dX1_copyFrom_80 : decode cX1_copyFrom 80 = .ok (.goto (-65), 3) := by decide +kernel
theorem dX1_copyFrom_83 : decode cX1_copyFrom 83 = .ok (.return_, 1) := by decide +kernel
theorem dX1_cards_0 : decode cX1_cards 0 = .ok (.aload_n 0, 1) := by decide +kernel
theorem dX1_cards_1 : decode cX1_cards 1 = .ok (.getfield 31, 3) := by decide +kernel
theorem dX1_cards_4 : decode cX1_cards 4 = .ok (.ireturn, 1) := by decide +kernel
theorem dX1_isCard_0 : decode cX1_isCard 0 = .ok (.iload_n 1, 1) := by decide +kernel
theorem dX1_isCard_1 : decode cX1_isCard 1 = .ok (.ifCond .lt 21, 3) := by decide +kernel
theorem dX1_isCard_4 : decode cX1_isCard 4 = .ok (.iload_n 1, 1) := by decide +kernel
theorem dX1_isCard_5 : decode cX1_isCard 5 = .ok (.aload_n 0, 1) := by decide +kernel
theorem dX1_isCard_6 : decode cX1_isCard 6 = .ok (.getfield 31, 3) := by decide +kernel
theorem dX1_isCard_9 : decode cX1_isCard 9 = .ok (.if_icmp .ge 13, 3) := by decide +kernel
theorem dX1_isCard_12 : decode cX1_isCard 12 = .ok (.iload_n 1, 1) := by decide +kernel
theorem dX1_isCard_13 : decode cX1_isCard 13 = .ok (.bipush 20, 2) := by decide +kernel
theorem dX1_isCard_15 : decode cX1_isCard 15 = .ok (.if_icmp .ge 7, 3) := by decide +kernel
theorem dX1_isCard_18 : decode cX1_isCard 18 = .ok (.iconst 1, 1) := by decide +kernel
theorem dX1_isCard_19 : decode cX1_isCard 19 = .ok (.goto 4, 3) := by decide +kernel
theorem dX1_isCard_22 : decode cX1_isCard 22 = .ok (.iconst 0, 1) := by decide +kernel
theorem dX1_isCard_23 : decode cX1_isCard 23 = .ok (.ireturn, 1) := by decide +kernel
theorem dX1_placeOf_0 : decode cX1_placeOf 0 = .ok (.iconst 0, 1) := by decide +kernel
theorem dX1_placeOf_1 : decode cX1_placeOf 1 = .ok (.istore_n 2, 1) := by decide +kernel
theorem dX1_placeOf_2 : decode cX1_placeOf 2 = .ok (.iload_n 2, 1) := by decide +kernel
theorem dX1_placeOf_3 : decode cX1_placeOf 3 = .ok (.aload_n 0, 1) := by decide +kernel
theorem dX1_placeOf_4 : decode cX1_placeOf 4 = .ok (.getfield 31, 3) := by decide +kernel
theorem dX1_placeOf_7 : decode cX1_placeOf 7 = .ok (.if_icmp .ge 27, 3) := by decide +kernel
theorem dX1_placeOf_10 : decode cX1_placeOf 10 = .ok (.iload_n 2, 1) := by decide +kernel
theorem dX1_placeOf_11 : decode cX1_placeOf 11 = .ok (.bipush 20, 2) := by decide +kernel
theorem dX1_placeOf_13 : decode cX1_placeOf 13 = .ok (.if_icmp .ge 21, 3) := by decide +kernel
theorem dX1_placeOf_16 : decode cX1_placeOf 16 = .ok (.aload_n 0, 1) := by decide +kernel
theorem dX1_placeOf_17 : decode cX1_placeOf 17 = .ok (.getfield 9, 3) := by decide +kernel
theorem dX1_placeOf_20 : decode cX1_placeOf 20 = .ok (.iload_n 2, 1) := by decide +kernel
theorem dX1_placeOf_21 : decode cX1_placeOf 21 = .ok (.iaload, 1) := by decide +kernel
theorem dX1_placeOf_22 : decode cX1_placeOf 22 = .ok (.iload_n 1, 1) := by decide +kernel
theorem dX1_placeOf_23 : decode cX1_placeOf 23 = .ok (.if_icmp .ne 5, 3) := by decide +kernel
theorem dX1_placeOf_26 : decode cX1_placeOf 26 = .ok (.iload_n 2, 1) := by decide +kernel
theorem dX1_placeOf_27 : decode cX1_placeOf 27 = .ok (.ireturn, 1) := by decide +kernel
theorem dX1_placeOf_28 : decode cX1_placeOf 28 = .ok (.iinc 2 1, 3) := by decide +kernel
theorem dX1_placeOf_31 : decode cX1_placeOf 31 = .ok (.goto (-29), 3) := by decide +kernel
theorem dX1_placeOf_34 : decode cX1_placeOf 34 = .ok (.iconst (-1), 1) := by decide +kernel
theorem dX1_placeOf_35 : decode cX1_placeOf 35 = .ok (.ireturn, 1) := by decide +kernel
theorem dX1_nameAt_0 : decode cX1_nameAt 0 = .ok (.aload_n 0, 1) := by decide +kernel
theorem dX1_nameAt_1 : decode cX1_nameAt 1 = .ok (.iload_n 1, 1) := by decide +kernel
theorem dX1_nameAt_2 : decode cX1_nameAt 2 = .ok (.invokevirtual 35, 3) := by decide +kernel
theorem dX1_nameAt_5 : decode cX1_nameAt 5 = .ok (.ifCond .eq 12, 3) := by decide +kernel
theorem dX1_nameAt_8 : decode cX1_nameAt 8 = .ok (.aload_n 0, 1) := by decide +kernel
theorem dX1_nameAt_9 : decode cX1_nameAt 9 = .ok (.getfield 9, 3) := by decide +kernel
theorem dX1_nameAt_12 : decode cX1_nameAt 12 = .ok (.iload_n 1, 1) := by decide +kernel
theorem dX1_nameAt_13 : decode cX1_nameAt 13 = .ok (.iaload, 1) := by decide +kernel
theorem dX1_nameAt_14 : decode cX1_nameAt 14 = .ok (.goto 5, 3) := by decide +kernel
theorem dX1_nameAt_17 : decode cX1_nameAt 17 = .ok (.bipush (-5), 2) := by decide +kernel
theorem dX1_nameAt_19 : decode cX1_nameAt 19 = .ok (.ireturn, 1) := by decide +kernel
theorem dX1_isAwake_0 : decode cX1_isAwake 0 = .ok (.aload_n 0, 1) := by decide +kernel
theorem dX1_isAwake_1 : decode cX1_isAwake 1 = .ok (.iload_n 1, 1) := by decide +kernel
theorem dX1_isAwake_2 : decode cX1_isAwake 2 = .ok (.invokevirtual 35, 3) := by decide +kernel
theorem dX1_isAwake_5 : decode cX1_isAwake 5 = .ok (.ifCond .eq 16, 3) := by decide +kernel
theorem dX1_isAwake_8 : decode cX1_isAwake 8 = .ok (.aload_n 0, 1) := by decide +kernel
theorem dX1_isAwake_9 : decode cX1_isAwake 9 = .ok (.getfield 24, 3) := by decide +kernel
theorem dX1_isAwake_12 : decode cX1_isAwake 12 = .ok (.iload_n 1, 1) := by decide +kernel
theorem dX1_isAwake_13 : decode cX1_isAwake 13 = .ok (.baload, 1) := by decide +kernel
theorem dX1_isAwake_14 : decode cX1_isAwake 14 = .ok (.ifCond .eq 7, 3) := by decide +kernel
theorem dX1_isAwake_17 : decode cX1_isAwake 17 = .ok (.iconst 1, 1) := by decide +kernel
theorem dX1_isAwake_18 : decode cX1_isAwake 18 = .ok (.goto 4, 3) := by decide +kernel
theorem dX1_isAwake_21 : decode cX1_isAwake 21 = .ok (.iconst 0, 1) := by decide +kernel
theorem dX1_isAwake_22 : decode cX1_isAwake 22 = .ok (.ireturn, 1) := by decide +kernel
theorem dX1_asksToGo_0 : decode cX1_asksToGo 0 = .ok (.aload_n 0, 1) := by decide +kernel
theorem dX1_asksToGo_1 : decode cX1_asksToGo 1 = .ok (.iload_n 1, 1) := by decide +kernel
theorem dX1_asksToGo_2 : decode cX1_asksToGo 2 = .ok (.invokevirtual 35, 3) := by decide +kernel
theorem dX1_asksToGo_5 : decode cX1_asksToGo 5 = .ok (.ifCond .eq 12, 3) := by decide +kernel
theorem dX1_asksToGo_8 : decode cX1_asksToGo 8 = .ok (.aload_n 0, 1) := by decide +kernel
theorem dX1_asksToGo_9 : decode cX1_asksToGo 9 = .ok (.getfield 15, 3) := by decide +kernel
theorem dX1_asksToGo_12 : decode cX1_asksToGo 12 = .ok (.iload_n 1, 1) := by decide +kernel
theorem dX1_asksToGo_13 : decode cX1_asksToGo 13 = .ok (.iaload, 1) := by decide +kernel
theorem dX1_asksToGo_14 : decode cX1_asksToGo 14 = .ok (.goto 4, 3) := by decide +kernel
theorem dX1_asksToGo_17 : decode cX1_asksToGo 17 = .ok (.iconst 0, 1) := by decide +kernel
theorem dX1_asksToGo_18 : decode cX1_asksToGo 18 = .ok (.ireturn, 1) := by decide +kernel
theorem dX1_tellings_0 : decode cX1_tellings 0 = .ok (.aload_n 0, 1) := by decide +kernel
theorem dX1_tellings_1 : decode cX1_tellings 1 = .ok (.iload_n 1, 1) := by decide +kernel
theorem dX1_tellings_2 : decode cX1_tellings 2 = .ok (.invokevirtual 35, 3) := by decide +kernel
theorem dX1_tellings_5 : decode cX1_tellings 5 = .ok (.ifCond .eq 12, 3) := by decide +kernel
theorem dX1_tellings_8 : decode cX1_tellings 8 = .ok (.aload_n 0, 1) := by decide +kernel
theorem dX1_tellings_9 : decode cX1_tellings 9 = .ok (.getfield 18, 3) := by decide +kernel
theorem dX1_tellings_12 : decode cX1_tellings 12 = .ok (.iload_n 1, 1) := by decide +kernel
theorem dX1_tellings_13 : decode cX1_tellings 13 = .ok (.iaload, 1) := by decide +kernel
theorem dX1_tellings_14 : decode cX1_tellings 14 = .ok (.goto 4, 3) := by decide +kernel
theorem dX1_tellings_17 : decode cX1_tellings 17 = .ok (.iconst 0, 1) := by decide +kernel
theorem dX1_tellings_18 : decode cX1_tellings 18 = .ok (.ireturn, 1) := by decide +kernel
theorem dX1_sharedBits_0 : decode cX1_sharedBits 0 = .ok (.aload_n 0, 1) := by decide +kernel
theorem dX1_sharedBits_1 : decode cX1_sharedBits 1 = .ok (.iload_n 1, 1) := by decide +kernel
theorem dX1_sharedBits_2 : decode cX1_sharedBits 2 = .ok (.invokevirtual 35, 3) := by decide +kernel
theorem dX1_sharedBits_5 : decode cX1_sharedBits 5 = .ok (.ifCond .ne 6, 3) := by decide +kernel
theorem dX1_sharedBits_8 : decode cX1_sharedBits 8 = .ok (.bipush (-5), 2) := by decide +kernel
theorem dX1_sharedBits_10 : decode cX1_sharedBits 10 = .ok (.ireturn, 1) := by decide +kernel
theorem dX1_sharedBits_11 : decode cX1_sharedBits 11 = .ok (.bipush (-5), 2) := by decide +kernel
theorem dX1_sharedBits_13 : decode cX1_sharedBits 13 = .ok (.istore_n 2, 1) := by decide +kernel
theorem dX1_sharedBits_14 : decode cX1_sharedBits 14 = .ok (.iconst 0, 1) := by decide +kernel
theorem dX1_sharedBits_15 : decode cX1_sharedBits 15 = .ok (.istore_n 3, 1) := by decide +kernel
theorem dX1_sharedBits_16 : decode cX1_sharedBits 16 = .ok (.iload_n 3, 1) := by decide +kernel
theorem dX1_sharedBits_17 : decode cX1_sharedBits 17 = .ok (.aload_n 0, 1) := by decide +kernel
theorem dX1_sharedBits_18 : decode cX1_sharedBits 18 = .ok (.getfield 31, 3) := by decide +kernel
theorem dX1_sharedBits_21 : decode cX1_sharedBits 21 = .ok (.if_icmp .ge 41, 3) := by decide +kernel
theorem dX1_sharedBits_24 : decode cX1_sharedBits 24 = .ok (.iload_n 3, 1) := by decide +kernel
theorem dX1_sharedBits_25 : decode cX1_sharedBits 25 = .ok (.bipush 20, 2) := by decide +kernel
theorem dX1_sharedBits_27 : decode cX1_sharedBits 27 = .ok (.if_icmp .ge 35, 3) := by decide +kernel
theorem dX1_sharedBits_30 : decode cX1_sharedBits 30 = .ok (.iload_n 3, 1) := by decide +kernel
theorem dX1_sharedBits_31 : decode cX1_sharedBits 31 = .ok (.iload_n 1, 1) := by decide +kernel
theorem dX1_sharedBits_32 : decode cX1_sharedBits 32 = .ok (.if_icmp .eq 24, 3) := by decide +kernel
theorem dX1_sharedBits_35 : decode cX1_sharedBits 35 = .ok (.iload_n 2, 1) := by decide +kernel
theorem dX1_sharedBits_36 : decode cX1_sharedBits 36 = .ok (.aload_n 0, 1) := by decide +kernel
theorem dX1_sharedBits_37 : decode cX1_sharedBits 37 = .ok (.getfield 9, 3) := by decide +kernel
theorem dX1_sharedBits_40 : decode cX1_sharedBits 40 = .ok (.iload_n 3, 1) := by decide +kernel
theorem dX1_sharedBits_41 : decode cX1_sharedBits 41 = .ok (.iaload, 1) := by decide +kernel
theorem dX1_sharedBits_42 : decode cX1_sharedBits 42 = .ok (.aload_n 0, 1) := by decide +kernel
theorem dX1_sharedBits_43 : decode cX1_sharedBits 43 = .ok (.getfield 9, 3) := by decide +kernel
theorem dX1_sharedBits_46 : decode cX1_sharedBits 46 = .ok (.iload_n 1, 1) := by decide +kernel
theorem dX1_sharedBits_47 : decode cX1_sharedBits 47 = .ok (.iaload, 1) := by decide +kernel
theorem dX1_sharedBits_48 : decode cX1_sharedBits 48 = .ok (.ixor, 1) := by decide +kernel
theorem dX1_sharedBits_49 : decode cX1_sharedBits 49 = .ok (.invokestatic 39, 3) := by decide +kernel
theorem dX1_sharedBits_52 : decode cX1_sharedBits 52 = .ok (.invokestatic 43, 3) := by decide +kernel
theorem dX1_sharedBits_55 : decode cX1_sharedBits 55 = .ok (.istore_n 2, 1) := by decide +kernel
theorem dX1_sharedBits_56 : decode cX1_sharedBits 56 = .ok (.iinc 3 1, 3) := by decide +kernel
theorem dX1_sharedBits_59 : decode cX1_sharedBits 59 = .ok (.goto (-43), 3) := by decide +kernel
theorem dX1_sharedBits_62 : decode cX1_sharedBits 62 = .ok (.iload_n 2, 1) := by decide +kernel
theorem dX1_sharedBits_63 : decode cX1_sharedBits 63 = .ok (.ireturn, 1) := by decide +kernel
theorem dX1_awakeCards_0 : decode cX1_awakeCards 0 = .ok (.aload_n 0, 1) := by decide +kernel
theorem dX1_awakeCards_1 : decode cX1_awakeCards 1 = .ok (.iconst 0, 1) := by decide +kernel
theorem dX1_awakeCards_2 : decode cX1_awakeCards 2 = .ok (.iconst 0, 1) := by decide +kernel
theorem dX1_awakeCards_3 : decode cX1_awakeCards 3 = .ok (.invokevirtual 49, 3) := by decide +kernel
theorem dX1_awakeCards_6 : decode cX1_awakeCards 6 = .ok (.ireturn, 1) := by decide +kernel
theorem dX1_awakeWith_0 : decode cX1_awakeWith 0 = .ok (.iconst 0, 1) := by decide +kernel
theorem dX1_awakeWith_1 : decode cX1_awakeWith 1 = .ok (.istore_n 3, 1) := by decide +kernel
theorem dX1_awakeWith_2 : decode cX1_awakeWith 2 = .ok (.iconst 0, 1) := by decide +kernel
theorem dX1_awakeWith_3 : decode cX1_awakeWith 3 = .ok (.istore 4, 2) := by decide +kernel
theorem dX1_awakeWith_5 : decode cX1_awakeWith 5 = .ok (.iload 4, 2) := by decide +kernel
theorem dX1_awakeWith_7 : decode cX1_awakeWith 7 = .ok (.aload_n 0, 1) := by decide +kernel
theorem dX1_awakeWith_8 : decode cX1_awakeWith 8 = .ok (.getfield 31, 3) := by decide +kernel
theorem dX1_awakeWith_11 : decode cX1_awakeWith 11 = .ok (.if_icmp .ge 44, 3) := by decide +kernel
theorem dX1_awakeWith_14 : decode cX1_awakeWith 14 = .ok (.iload 4, 2) := by decide +kernel
theorem dX1_awakeWith_16 : decode cX1_awakeWith 16 = .ok (.bipush 20, 2) := by decide +kernel
theorem dX1_awakeWith_18 : decode cX1_awakeWith 18 = .ok (.if_icmp .ge 37, 3) := by decide +kernel
theorem dX1_awakeWith_21 : decode cX1_awakeWith 21 = .ok (.aload_n 0, 1) := by decide +kernel
theorem dX1_awakeWith_22 : decode cX1_awakeWith 22 = .ok (.getfield 24, 3) := by decide +kernel
theorem dX1_awakeWith_25 : decode cX1_awakeWith 25 = .ok (.iload 4, 2) := by decide +kernel
theorem dX1_awakeWith_27 : decode cX1_awakeWith 27 = .ok (.baload, 1) := by decide +kernel
theorem dX1_awakeWith_28 : decode cX1_awakeWith 28 = .ok (.ifCond .eq 21, 3) := by decide +kernel
theorem dX1_awakeWith_31 : decode cX1_awakeWith 31 = .ok (.aload_n 0, 1) := by decide +kernel
theorem dX1_awakeWith_32 : decode cX1_awakeWith 32 = .ok (.getfield 9, 3) := by decide +kernel
theorem dX1_awakeWith_35 : decode cX1_awakeWith 35 = .ok (.iload 4, 2) := by decide +kernel
theorem dX1_awakeWith_37 : decode cX1_awakeWith 37 = .ok (.iaload, 1) := by decide +kernel
theorem dX1_awakeWith_38 : decode cX1_awakeWith 38 = .ok (.iload_n 1, 1) := by decide +kernel
theorem dX1_awakeWith_39 : decode cX1_awakeWith 39 = .ok (.invokestatic 52, 3) := by decide +kernel
theorem dX1_awakeWith_42 : decode cX1_awakeWith 42 = .ok (.iload_n 2, 1) := by decide +kernel
theorem dX1_awakeWith_43 : decode cX1_awakeWith 43 = .ok (.if_icmp .ne 6, 3) := by decide +kernel
theorem dX1_awakeWith_46 : decode cX1_awakeWith 46 = .ok (.iinc 3 1, 3) := by decide +kernel
theorem dX1_awakeWith_49 : decode cX1_awakeWith 49 = .ok (.iinc 4 1, 3) := by decide +kernel
theorem dX1_awakeWith_52 : decode cX1_awakeWith 52 = .ok (.goto (-47), 3) := by decide +kernel
theorem dX1_awakeWith_55 : decode cX1_awakeWith 55 = .ok (.iload_n 3, 1) := by decide +kernel
theorem dX1_awakeWith_56 : decode cX1_awakeWith 56 = .ok (.ireturn, 1) := by decide +kernel
theorem dX1_leavingCards_0 : decode cX1_leavingCards 0 = .ok (.iconst 0, 1) := by decide +kernel
theorem dX1_leavingCards_1 : decode cX1_leavingCards 1 = .ok (.istore_n 1, 1) := by decide +kernel
theorem dX1_leavingCards_2 : decode cX1_leavingCards 2 = .ok (.iconst 0, 1) := by decide +kernel
theorem dX1_leavingCards_3 : decode cX1_leavingCards 3 = .ok (.istore_n 2, 1) := by decide +kernel
theorem dX1_leavingCards_4 : decode cX1_leavingCards 4 = .ok (.iload_n 2, 1) := by decide +kernel
theorem dX1_leavingCards_5 : decode cX1_leavingCards 5 = .ok (.aload_n 0, 1) := by decide +kernel
theorem dX1_leavingCards_6 : decode cX1_leavingCards 6 = .ok (.getfield 31, 3) := by decide +kernel
theorem dX1_leavingCards_9 : decode cX1_leavingCards 9 = .ok (.if_icmp .ge 27, 3) := by decide +kernel
theorem dX1_leavingCards_12 : decode cX1_leavingCards 12 = .ok (.iload_n 2, 1) := by decide +kernel
theorem dX1_leavingCards_13 : decode cX1_leavingCards 13 = .ok (.bipush 20, 2) := by decide +kernel
theorem dX1_leavingCards_15 : decode cX1_leavingCards 15 = .ok (.if_icmp .ge 21, 3) := by decide +kernel
theorem dX1_leavingCards_18 : decode cX1_leavingCards 18 = .ok (.aload_n 0, 1) := by decide +kernel
theorem dX1_leavingCards_19 : decode cX1_leavingCards 19 = .ok (.getfield 15, 3) := by decide +kernel
theorem dX1_leavingCards_22 : decode cX1_leavingCards 22 = .ok (.iload_n 2, 1) := by decide +kernel
theorem dX1_leavingCards_23 : decode cX1_leavingCards 23 = .ok (.iaload, 1) := by decide +kernel
theorem dX1_leavingCards_24 : decode cX1_leavingCards 24 = .ok (.ifCond .le 6, 3) := by decide +kernel
theorem dX1_leavingCards_27 : decode cX1_leavingCards 27 = .ok (.iinc 1 1, 3) := by decide +kernel
theorem dX1_leavingCards_30 : decode cX1_leavingCards 30 = .ok (.iinc 2 1, 3) := by decide +kernel
theorem dX1_leavingCards_33 : decode cX1_leavingCards 33 = .ok (.goto (-29), 3) := by decide +kernel
theorem dX1_leavingCards_36 : decode cX1_leavingCards 36 = .ok (.iload_n 1, 1) := by decide +kernel
theorem dX1_leavingCards_37 : decode cX1_leavingCards 37 = .ok (.ireturn, 1) := by decide +kernel
theorem dX1_insert_0 : decode cX1_insert 0 = .ok (.aload_n 0, 1) := by decide +kernel
theorem dX1_insert_1 : decode cX1_insert 1 = .ok (.getfield 31, 3) := by decide +kernel
theorem dX1_insert_4 : decode cX1_insert 4 = .ok (.ifCond .lt 12, 3) := by decide +kernel
theorem dX1_insert_7 : decode cX1_insert 7 = .ok (.aload_n 0, 1) := by decide +kernel
theorem dX1_insert_8 : decode cX1_insert 8 = .ok (.getfield 31, 3) := by decide +kernel
theorem dX1_insert_11 : decode cX1_insert 11 = .ok (.bipush 20, 2) := by decide +kernel
theorem dX1_insert_13 : decode cX1_insert 13 = .ok (.if_icmp .lt 4, 3) := by decide +kernel
theorem dX1_insert_16 : decode cX1_insert 16 = .ok (.return_, 1) := by decide +kernel
theorem dX1_insert_17 : decode cX1_insert 17 = .ok (.aload_n 0, 1) := by decide +kernel
theorem dX1_insert_18 : decode cX1_insert 18 = .ok (.getfield 31, 3) := by decide +kernel
theorem dX1_insert_21 : decode cX1_insert 21 = .ok (.istore_n 2, 1) := by decide +kernel
theorem dX1_insert_22 : decode cX1_insert 22 = .ok (.iload_n 2, 1) := by decide +kernel
theorem dX1_insert_23 : decode cX1_insert 23 = .ok (.ifCond .le 29, 3) := by decide +kernel
theorem dX1_insert_26 : decode cX1_insert 26 = .ok (.aload_n 0, 1) := by decide +kernel
theorem dX1_insert_27 : decode cX1_insert 27 = .ok (.getfield 9, 3) := by decide +kernel
theorem dX1_insert_30 : decode cX1_insert 30 = .ok (.iload_n 2, 1) := by decide +kernel
theorem dX1_insert_31 : decode cX1_insert 31 = .ok (.iconst 1, 1) := by decide +kernel
theorem dX1_insert_32 : decode cX1_insert 32 = .ok (.isub, 1) := by decide +kernel
theorem dX1_insert_33 : decode cX1_insert 33 = .ok (.iaload, 1) := by decide +kernel
theorem dX1_insert_34 : decode cX1_insert 34 = .ok (.iload_n 1, 1) := by decide +kernel
theorem dX1_insert_35 : decode cX1_insert 35 = .ok (.if_icmp .le 17, 3) := by decide +kernel
theorem dX1_insert_38 : decode cX1_insert 38 = .ok (.aload_n 0, 1) := by decide +kernel
theorem dX1_insert_39 : decode cX1_insert 39 = .ok (.iload_n 2, 1) := by decide +kernel
theorem dX1_insert_40 : decode cX1_insert 40 = .ok (.iconst 1, 1) := by decide +kernel
theorem dX1_insert_41 : decode cX1_insert 41 = .ok (.isub, 1) := by decide +kernel
theorem dX1_insert_42 : decode cX1_insert 42 = .ok (.iload_n 2, 1) := by decide +kernel
theorem dX1_insert_43 : decode cX1_insert 43 = .ok (.invokevirtual 55, 3) := by decide +kernel
theorem dX1_insert_46 : decode cX1_insert 46 = .ok (.iinc 2 (-1), 3) := by decide +kernel
theorem dX1_insert_49 : decode cX1_insert 49 = .ok (.goto (-27), 3) := by decide +kernel
theorem dX1_insert_52 : decode cX1_insert 52 = .ok (.aload_n 0, 1) := by decide +kernel
theorem dX1_insert_53 : decode cX1_insert 53 = .ok (.getfield 9, 3) := by decide +kernel
theorem dX1_insert_56 : decode cX1_insert 56 = .ok (.iload_n 2, 1) := by decide +kernel
theorem dX1_insert_57 : decode cX1_insert 57 = .ok (.iload_n 1, 1) := by decide +kernel
theorem dX1_insert_58 : decode cX1_insert 58 = .ok (.iastore, 1) := by decide +kernel
theorem dX1_insert_59 : decode cX1_insert 59 = .ok (.aload_n 0, 1) := by decide +kernel
theorem dX1_insert_60 : decode cX1_insert 60 = .ok (.getfield 15, 3) := by decide +kernel
theorem dX1_insert_63 : decode cX1_insert 63 = .ok (.iload_n 2, 1) := by decide +kernel
theorem dX1_insert_64 : decode cX1_insert 64 = .ok (.iconst 0, 1) := by decide +kernel
theorem dX1_insert_65 : decode cX1_insert 65 = .ok (.iastore, 1) := by decide +kernel
theorem dX1_insert_66 : decode cX1_insert 66 = .ok (.aload_n 0, 1) := by decide +kernel
theorem dX1_insert_67 : decode cX1_insert 67 = .ok (.getfield 18, 3) := by decide +kernel
theorem dX1_insert_70 : decode cX1_insert 70 = .ok (.iload_n 2, 1) := by decide +kernel
theorem dX1_insert_71 : decode cX1_insert 71 = .ok (.iconst 0, 1) := by decide +kernel
theorem dX1_insert_72 : decode cX1_insert 72 = .ok (.iastore, 1) := by decide +kernel
theorem dX1_insert_73 : decode cX1_insert 73 = .ok (.aload_n 0, 1) := by decide +kernel
theorem dX1_insert_74 : decode cX1_insert 74 = .ok (.getfield 21, 3) := by decide +kernel
theorem dX1_insert_77 : decode cX1_insert 77 = .ok (.iload_n 2, 1) := by decide +kernel
theorem dX1_insert_78 : decode cX1_insert 78 = .ok (.iconst (-1), 1) := by decide +kernel
theorem dX1_insert_79 : decode cX1_insert 79 = .ok (.iastore, 1) := by decide +kernel
theorem dX1_insert_80 : decode cX1_insert 80 = .ok (.aload_n 0, 1) := by decide +kernel
theorem dX1_insert_81 : decode cX1_insert 81 = .ok (.getfield 24, 3) := by decide +kernel
theorem dX1_insert_84 : decode cX1_insert 84 = .ok (.iload_n 2, 1) := by decide +kernel
theorem dX1_insert_85 : decode cX1_insert 85 = .ok (.iconst 1, 1) := by decide +kernel
theorem dX1_insert_86 : decode cX1_insert 86 = .ok (.bastore, 1) := by decide +kernel
theorem dX1_insert_87 : decode cX1_insert 87 = .ok (.aload_n 0, 1) := by decide +kernel
theorem dX1_insert_88 : decode cX1_insert 88 = .ok (.dup, 1) := by decide +kernel
theorem dX1_insert_89 : decode cX1_insert 89 = .ok (.getfield 31, 3) := by decide +kernel
theorem dX1_insert_92 : decode cX1_insert 92 = .ok (.iconst 1, 1) := by decide +kernel
theorem dX1_insert_93 : decode cX1_insert 93 = .ok (.iadd, 1) := by decide +kernel
theorem dX1_insert_94 : decode cX1_insert 94 = .ok (.putfield 31, 3) := by decide +kernel
theorem dX1_insert_97 : decode cX1_insert 97 = .ok (.return_, 1) := by decide +kernel
theorem dX1_removeAt_0 : decode cX1_removeAt 0 = .ok (.aload_n 0, 1) := by decide +kernel
theorem dX1_removeAt_1 : decode cX1_removeAt 1 = .ok (.iload_n 1, 1) := by decide +kernel
theorem dX1_removeAt_2 : decode cX1_removeAt 2 = .ok (.invokevirtual 35, 3) := by decide +kernel
theorem dX1_removeAt_5 : decode cX1_removeAt 5 = .ok (.ifCond .ne 4, 3) := by decide +kernel
theorem dX1_removeAt_8 : decode cX1_removeAt 8 = .ok (.return_, 1) := by decide +kernel
theorem dX1_removeAt_9 : decode cX1_removeAt 9 = .ok (.iload_n 1, 1) := by decide +kernel
theorem dX1_removeAt_10 : decode cX1_removeAt 10 = .ok (.istore_n 2, 1) := by decide +kernel
theorem dX1_removeAt_11 : decode cX1_removeAt 11 = .ok (.iload_n 2, 1) := by decide +kernel
theorem dX1_removeAt_12 : decode cX1_removeAt 12 = .ok (.iconst 1, 1) := by decide +kernel
theorem dX1_removeAt_13 : decode cX1_removeAt 13 = .ok (.iadd, 1) := by decide +kernel
theorem dX1_removeAt_14 : decode cX1_removeAt 14 = .ok (.aload_n 0, 1) := by decide +kernel
theorem dX1_removeAt_15 : decode cX1_removeAt 15 = .ok (.getfield 31, 3) := by decide +kernel
theorem dX1_removeAt_18 : decode cX1_removeAt 18 = .ok (.if_icmp .ge 25, 3) := by decide +kernel
theorem dX1_removeAt_21 : decode cX1_removeAt 21 = .ok (.iload_n 2, 1) := by decide +kernel
theorem dX1_removeAt_22 : decode cX1_removeAt 22 = .ok (.iconst 1, 1) := by decide +kernel
theorem dX1_removeAt_23 : decode cX1_removeAt 23 = .ok (.iadd, 1) := by decide +kernel
theorem dX1_removeAt_24 : decode cX1_removeAt 24 = .ok (.bipush 20, 2) := by decide +kernel
theorem dX1_removeAt_26 : decode cX1_removeAt 26 = .ok (.if_icmp .ge 17, 3) := by decide +kernel
theorem dX1_removeAt_29 : decode cX1_removeAt 29 = .ok (.aload_n 0, 1) := by decide +kernel
theorem dX1_removeAt_30 : decode cX1_removeAt 30 = .ok (.iload_n 2, 1) := by decide +kernel
theorem dX1_removeAt_31 : decode cX1_removeAt 31 = .ok (.iconst 1, 1) := by decide +kernel
theorem dX1_removeAt_32 : decode cX1_removeAt 32 = .ok (.iadd, 1) := by decide +kernel
theorem dX1_removeAt_33 : decode cX1_removeAt 33 = .ok (.iload_n 2, 1) := by decide +kernel
theorem dX1_removeAt_34 : decode cX1_removeAt 34 = .ok (.invokevirtual 55, 3) := by decide +kernel
theorem dX1_removeAt_37 : decode cX1_removeAt 37 = .ok (.iinc 2 1, 3) := by decide +kernel
theorem dX1_removeAt_40 : decode cX1_removeAt 40 = .ok (.goto (-29), 3) := by decide +kernel
theorem dX1_removeAt_43 : decode cX1_removeAt 43 = .ok (.aload_n 0, 1) := by decide +kernel
theorem dX1_removeAt_44 : decode cX1_removeAt 44 = .ok (.dup, 1) := by decide +kernel
theorem dX1_removeAt_45 : decode cX1_removeAt 45 = .ok (.getfield 31, 3) := by decide +kernel
theorem dX1_removeAt_48 : decode cX1_removeAt 48 = .ok (.iconst 1, 1) := by decide +kernel
theorem dX1_removeAt_49 : decode cX1_removeAt 49 = .ok (.isub, 1) := by decide +kernel
theorem dX1_removeAt_50 : decode cX1_removeAt 50 = .ok (.putfield 31, 3) := by decide +kernel
theorem dX1_removeAt_53 : decode cX1_removeAt 53 = .ok (.return_, 1) := by decide +kernel
theorem dX1_moveCard_0 : decode cX1_moveCard 0 = .ok (.iload_n 1, 1) := by decide +kernel
theorem dX1_moveCard_1 : decode cX1_moveCard 1 = .ok (.ifCond .lt 19, 3) := by decide +kernel
theorem dX1_moveCard_4 : decode cX1_moveCard 4 = .ok (.iload_n 1, 1) := by decide +kernel
theorem dX1_moveCard_5 : decode cX1_moveCard 5 = .ok (.bipush 20, 2) := by decide +kernel
theorem dX1_moveCard_7 : decode cX1_moveCard 7 = .ok (.if_icmp .ge 13, 3) := by decide +kernel
theorem dX1_moveCard_10 : decode cX1_moveCard 10 = .ok (.iload_n 2, 1) := by decide +kernel
theorem dX1_moveCard_11 : decode cX1_moveCard 11 = .ok (.ifCond .lt 9, 3) := by decide +kernel
theorem dX1_moveCard_14 : decode cX1_moveCard 14 = .ok (.iload_n 2, 1) := by decide +kernel
theorem dX1_moveCard_15 : decode cX1_moveCard 15 = .ok (.bipush 20, 2) := by decide +kernel
theorem dX1_moveCard_17 : decode cX1_moveCard 17 = .ok (.if_icmp .lt 4, 3) := by decide +kernel
theorem dX1_moveCard_20 : decode cX1_moveCard 20 = .ok (.return_, 1) := by decide +kernel
theorem dX1_moveCard_21 : decode cX1_moveCard 21 = .ok (.aload_n 0, 1) := by decide +kernel
theorem dX1_moveCard_22 : decode cX1_moveCard 22 = .ok (.getfield 9, 3) := by decide +kernel
theorem dX1_moveCard_25 : decode cX1_moveCard 25 = .ok (.iload_n 2, 1) := by decide +kernel
theorem dX1_moveCard_26 : decode cX1_moveCard 26 = .ok (.aload_n 0, 1) := by decide +kernel
theorem dX1_moveCard_27 : decode cX1_moveCard 27 = .ok (.getfield 9, 3) := by decide +kernel
theorem dX1_moveCard_30 : decode cX1_moveCard 30 = .ok (.iload_n 1, 1) := by decide +kernel
theorem dX1_moveCard_31 : decode cX1_moveCard 31 = .ok (.iaload, 1) := by decide +kernel
theorem dX1_moveCard_32 : decode cX1_moveCard 32 = .ok (.iastore, 1) := by decide +kernel
theorem dX1_moveCard_33 : decode cX1_moveCard 33 = .ok (.aload_n 0, 1) := by decide +kernel
theorem dX1_moveCard_34 : decode cX1_moveCard 34 = .ok (.getfield 15, 3) := by decide +kernel
theorem dX1_moveCard_37 : decode cX1_moveCard 37 = .ok (.iload_n 2, 1) := by decide +kernel
theorem dX1_moveCard_38 : decode cX1_moveCard 38 = .ok (.aload_n 0, 1) := by decide +kernel
theorem dX1_moveCard_39 : decode cX1_moveCard 39 = .ok (.getfield 15, 3) := by decide +kernel
theorem dX1_moveCard_42 : decode cX1_moveCard 42 = .ok (.iload_n 1, 1) := by decide +kernel
theorem dX1_moveCard_43 : decode cX1_moveCard 43 = .ok (.iaload, 1) := by decide +kernel
theorem dX1_moveCard_44 : decode cX1_moveCard 44 = .ok (.iastore, 1) := by decide +kernel
theorem dX1_moveCard_45 : decode cX1_moveCard 45 = .ok (.aload_n 0, 1) := by decide +kernel
theorem dX1_moveCard_46 : decode cX1_moveCard 46 = .ok (.getfield 18, 3) := by decide +kernel
theorem dX1_moveCard_49 : decode cX1_moveCard 49 = .ok (.iload_n 2, 1) := by decide +kernel
theorem dX1_moveCard_50 : decode cX1_moveCard 50 = .ok (.aload_n 0, 1) := by decide +kernel
theorem dX1_moveCard_51 : decode cX1_moveCard 51 = .ok (.getfield 18, 3) := by decide +kernel
theorem dX1_moveCard_54 : decode cX1_moveCard 54 = .ok (.iload_n 1, 1) := by decide +kernel
theorem dX1_moveCard_55 : decode cX1_moveCard 55 = .ok (.iaload, 1) := by decide +kernel
theorem dX1_moveCard_56 : decode cX1_moveCard 56 = .ok (.iastore, 1) := by decide +kernel
theorem dX1_moveCard_57 : decode cX1_moveCard 57 = .ok (.aload_n 0, 1) := by decide +kernel
theorem dX1_moveCard_58 : decode cX1_moveCard 58 = .ok (.getfield 21, 3) := by decide +kernel
theorem dX1_moveCard_61 : decode cX1_moveCard 61 = .ok (.iload_n 2, 1) := by decide +kernel
theorem dX1_moveCard_62 : decode cX1_moveCard 62 = .ok (.aload_n 0, 1) := by decide +kernel
theorem dX1_moveCard_63 : decode cX1_moveCard 63 = .ok (.getfield 21, 3) := by decide +kernel
theorem dX1_moveCard_66 : decode cX1_moveCard 66 = .ok (.iload_n 1, 1) := by decide +kernel
theorem dX1_moveCard_67 : decode cX1_moveCard 67 = .ok (.iaload, 1) := by decide +kernel
theorem dX1_moveCard_68 : decode cX1_moveCard 68 = .ok (.iastore, 1) := by decide +kernel
theorem dX1_moveCard_69 : decode cX1_moveCard 69 = .ok (.aload_n 0, 1) := by decide +kernel
theorem dX1_moveCard_70 : decode cX1_moveCard 70 = .ok (.getfield 24, 3) := by decide +kernel
theorem dX1_moveCard_73 : decode cX1_moveCard 73 = .ok (.iload_n 2, 1) := by decide +kernel
theorem dX1_moveCard_74 : decode cX1_moveCard 74 = .ok (.aload_n 0, 1) := by decide +kernel
theorem dX1_moveCard_75 : decode cX1_moveCard 75 = .ok (.getfield 24, 3) := by decide +kernel
theorem dX1_moveCard_78 : decode cX1_moveCard 78 = .ok (.iload_n 1, 1) := by decide +kernel
theorem dX1_moveCard_79 : decode cX1_moveCard 79 = .ok (.baload, 1) := by decide +kernel
theorem dX1_moveCard_80 : decode cX1_moveCard 80 = .ok (.bastore, 1) := by decide +kernel
theorem dX1_moveCard_81 : decode cX1_moveCard 81 = .ok (.return_, 1) := by decide +kernel
theorem dX1_sleepAt_0 : decode cX1_sleepAt 0 = .ok (.aload_n 0, 1) := by decide +kernel
theorem dX1_sleepAt_1 : decode cX1_sleepAt 1 = .ok (.iload_n 1, 1) := by decide +kernel
theorem dX1_sleepAt_2 : decode cX1_sleepAt 2 = .ok (.invokevirtual 35, 3) := by decide +kernel
theorem dX1_sleepAt_5 : decode cX1_sleepAt 5 = .ok (.ifCond .eq 10, 3) := by decide +kernel
theorem dX1_sleepAt_8 : decode cX1_sleepAt 8 = .ok (.aload_n 0, 1) := by decide +kernel
theorem dX1_sleepAt_9 : decode cX1_sleepAt 9 = .ok (.getfield 24, 3) := by decide +kernel
theorem dX1_sleepAt_12 : decode cX1_sleepAt 12 = .ok (.iload_n 1, 1) := by decide +kernel
theorem dX1_sleepAt_13 : decode cX1_sleepAt 13 = .ok (.iconst 0, 1) := by decide +kernel
theorem dX1_sleepAt_14 : decode cX1_sleepAt 14 = .ok (.bastore, 1) := by decide +kernel
theorem dX1_sleepAt_15 : decode cX1_sleepAt 15 = .ok (.return_, 1) := by decide +kernel
theorem dX1_wakeEach_0 : decode cX1_wakeEach 0 = .ok (.iconst 0, 1) := by decide +kernel
theorem dX1_wakeEach_1 : decode cX1_wakeEach 1 = .ok (.istore_n 1, 1) := by decide +kernel
theorem dX1_wakeEach_2 : decode cX1_wakeEach 2 = .ok (.iload_n 1, 1) := by decide +kernel
theorem dX1_wakeEach_3 : decode cX1_wakeEach 3 = .ok (.aload_n 0, 1) := by decide +kernel
theorem dX1_wakeEach_4 : decode cX1_wakeEach 4 = .ok (.getfield 31, 3) := by decide +kernel
theorem dX1_wakeEach_7 : decode cX1_wakeEach 7 = .ok (.if_icmp .ge 22, 3) := by decide +kernel
theorem dX1_wakeEach_10 : decode cX1_wakeEach 10 = .ok (.iload_n 1, 1) := by decide +kernel
theorem dX1_wakeEach_11 : decode cX1_wakeEach 11 = .ok (.bipush 20, 2) := by decide +kernel
theorem dX1_wakeEach_13 : decode cX1_wakeEach 13 = .ok (.if_icmp .ge 16, 3) := by decide +kernel
theorem dX1_wakeEach_16 : decode cX1_wakeEach 16 = .ok (.aload_n 0, 1) := by decide +kernel
theorem dX1_wakeEach_17 : decode cX1_wakeEach 17 = .ok (.getfield 24, 3) := by decide +kernel
theorem dX1_wakeEach_20 : decode cX1_wakeEach 20 = .ok (.iload_n 1, 1) := by decide +kernel
theorem dX1_wakeEach_21 : decode cX1_wakeEach 21 = .ok (.iconst 1, 1) := by decide +kernel
theorem dX1_wakeEach_22 : decode cX1_wakeEach 22 = .ok (.bastore, 1) := by decide +kernel
theorem dX1_wakeEach_23 : decode cX1_wakeEach 23 = .ok (.iinc 1 1, 3) := by decide +kernel
theorem dX1_wakeEach_26 : decode cX1_wakeEach 26 = .ok (.goto (-24), 3) := by decide +kernel
theorem dX1_wakeEach_29 : decode cX1_wakeEach 29 = .ok (.return_, 1) := by decide +kernel
theorem dX1_leaveAt_0 : decode cX1_leaveAt 0 = .ok (.aload_n 0, 1) := by decide +kernel
theorem dX1_leaveAt_1 : decode cX1_leaveAt 1 = .ok (.iload_n 1, 1) := by decide +kernel
theorem dX1_leaveAt_2 : decode cX1_leaveAt 2 = .ok (.invokevirtual 35, 3) := by decide +kernel
theorem dX1_leaveAt_5 : decode cX1_leaveAt 5 = .ok (.ifCond .eq 10, 3) := by decide +kernel
theorem dX1_leaveAt_8 : decode cX1_leaveAt 8 = .ok (.aload_n 0, 1) := by decide +kernel
theorem dX1_leaveAt_9 : decode cX1_leaveAt 9 = .ok (.getfield 15, 3) := by decide +kernel
theorem dX1_leaveAt_12 : decode cX1_leaveAt 12 = .ok (.iload_n 1, 1) := by decide +kernel
theorem dX1_leaveAt_13 : decode cX1_leaveAt 13 = .ok (.iload_n 2, 1) := by decide +kernel
theorem dX1_leaveAt_14 : decode cX1_leaveAt 14 = .ok (.iastore, 1) := by decide +kernel
theorem dX1_leaveAt_15 : decode cX1_leaveAt 15 = .ok (.return_, 1) := by decide +kernel
theorem dX1_tellAt_0 : decode cX1_tellAt 0 = .ok (.aload_n 0, 1) := by decide +kernel
theorem dX1_tellAt_1 : decode cX1_tellAt 1 = .ok (.iload_n 1, 1) := by decide +kernel
theorem dX1_tellAt_2 : decode cX1_tellAt 2 = .ok (.invokevirtual 35, 3) := by decide +kernel
theorem dX1_tellAt_5 : decode cX1_tellAt 5 = .ok (.ifCond .eq 13, 3) := by decide +kernel
theorem dX1_tellAt_8 : decode cX1_tellAt 8 = .ok (.aload_n 0, 1) := by decide +kernel
theorem dX1_tellAt_9 : decode cX1_tellAt 9 = .ok (.getfield 18, 3) := by decide +kernel
theorem dX1_tellAt_12 : decode cX1_tellAt 12 = .ok (.iload_n 1, 1) := by decide +kernel
theorem dX1_tellAt_13 : decode cX1_tellAt 13 = .ok (.dup2, 1) := by decide +kernel
theorem dX1_tellAt_14 : decode cX1_tellAt 14 = .ok (.iaload, 1) := by decide +kernel
theorem dX1_tellAt_15 : decode cX1_tellAt 15 = .ok (.iconst 1, 1) := by decide +kernel
theorem dX1_tellAt_16 : decode cX1_tellAt 16 = .ok (.iadd, 1) := by decide +kernel
theorem dX1_tellAt_17 : decode cX1_tellAt 17 = .ok (.iastore, 1) := by decide +kernel
theorem dX1_tellAt_18 : decode cX1_tellAt 18 = .ok (.return_, 1) := by decide +kernel
theorem dX1_slotAt_0 : decode cX1_slotAt 0 = .ok (.aload_n 0, 1) := by decide +kernel
theorem dX1_slotAt_1 : decode cX1_slotAt 1 = .ok (.iload_n 1, 1) := by decide +kernel
theorem dX1_slotAt_2 : decode cX1_slotAt 2 = .ok (.invokevirtual 35, 3) := by decide +kernel
theorem dX1_slotAt_5 : decode cX1_slotAt 5 = .ok (.ifCond .eq 10, 3) := by decide +kernel
theorem dX1_slotAt_8 : decode cX1_slotAt 8 = .ok (.aload_n 0, 1) := by decide +kernel
theorem dX1_slotAt_9 : decode cX1_slotAt 9 = .ok (.getfield 21, 3) := by decide +kernel
theorem dX1_slotAt_12 : decode cX1_slotAt 12 = .ok (.iload_n 1, 1) := by decide +kernel
theorem dX1_slotAt_13 : decode cX1_slotAt 13 = .ok (.iload_n 2, 1) := by decide +kernel
theorem dX1_slotAt_14 : decode cX1_slotAt 14 = .ok (.iastore, 1) := by decide +kernel
theorem dX1_slotAt_15 : decode cX1_slotAt 15 = .ok (.return_, 1) := by decide +kernel
theorem dX1_letAnswer_0 : decode cX1_letAnswer 0 = .ok (.iconst 0, 1) := by decide +kernel
theorem dX1_letAnswer_1 : decode cX1_letAnswer 1 = .ok (.istore_n 3, 1) := by decide +kernel
theorem dX1_letAnswer_2 : decode cX1_letAnswer 2 = .ok (.iload_n 3, 1) := by decide +kernel
theorem dX1_letAnswer_3 : decode cX1_letAnswer 3 = .ok (.aload_n 0, 1) := by decide +kernel
theorem dX1_letAnswer_4 : decode cX1_letAnswer 4 = .ok (.getfield 31, 3) := by decide +kernel
theorem dX1_letAnswer_7 : decode cX1_letAnswer 7 = .ok (.if_icmp .ge 49, 3) := by decide +kernel
theorem dX1_letAnswer_10 : decode cX1_letAnswer 10 = .ok (.iload_n 3, 1) := by decide +kernel
theorem dX1_letAnswer_11 : decode cX1_letAnswer 11 = .ok (.bipush 20, 2) := by decide +kernel
theorem dX1_letAnswer_13 : decode cX1_letAnswer 13 = .ok (.if_icmp .ge 43, 3) := by decide +kernel
theorem dX1_letAnswer_16 : decode cX1_letAnswer 16 = .ok (.aload_n 0, 1) := by decide +kernel
theorem dX1_letAnswer_17 : decode cX1_letAnswer 17 = .ok (.getfield 28, 3) := by decide +kernel
theorem dX1_letAnswer_20 : decode cX1_letAnswer 20 = .ok (.iload_n 3, 1) := by decide +kernel
theorem dX1_letAnswer_21 : decode cX1_letAnswer 21 = .ok (.aload_n 0, 1) := by decide +kernel
theorem dX1_letAnswer_22 : decode cX1_letAnswer 22 = .ok (.getfield 24, 3) := by decide +kernel
theorem dX1_letAnswer_25 : decode cX1_letAnswer 25 = .ok (.iload_n 3, 1) := by decide +kernel
theorem dX1_letAnswer_26 : decode cX1_letAnswer 26 = .ok (.baload, 1) := by decide +kernel
theorem dX1_letAnswer_27 : decode cX1_letAnswer 27 = .ok (.ifCond .eq 21, 3) := by decide +kernel
theorem dX1_letAnswer_30 : decode cX1_letAnswer 30 = .ok (.aload_n 0, 1) := by decide +kernel
theorem dX1_letAnswer_31 : decode cX1_letAnswer 31 = .ok (.getfield 9, 3) := by decide +kernel
theorem dX1_letAnswer_34 : decode cX1_letAnswer 34 = .ok (.iload_n 3, 1) := by decide +kernel
theorem dX1_letAnswer_35 : decode cX1_letAnswer 35 = .ok (.iaload, 1) := by decide +kernel
theorem dX1_letAnswer_36 : decode cX1_letAnswer 36 = .ok (.iload_n 1, 1) := by decide +kernel
theorem dX1_letAnswer_37 : decode cX1_letAnswer 37 = .ok (.invokestatic 52, 3) := by decide +kernel
theorem dX1_letAnswer_40 : decode cX1_letAnswer 40 = .ok (.iload_n 2, 1) := by decide +kernel
theorem dX1_letAnswer_41 : decode cX1_letAnswer 41 = .ok (.if_icmp .ne 7, 3) := by decide +kernel
theorem dX1_letAnswer_44 : decode cX1_letAnswer 44 = .ok (.iconst 1, 1) := by decide +kernel
theorem dX1_letAnswer_45 : decode cX1_letAnswer 45 = .ok (.goto 4, 3) := by decide +kernel
theorem dX1_letAnswer_48 : decode cX1_letAnswer 48 = .ok (.iconst 0, 1) := by decide +kernel
theorem dX1_letAnswer_49 : decode cX1_letAnswer 49 = .ok (.bastore, 1) := by decide +kernel
theorem dX1_letAnswer_50 : decode cX1_letAnswer 50 = .ok (.iinc 3 1, 3) := by decide +kernel
theorem dX1_letAnswer_53 : decode cX1_letAnswer 53 = .ok (.goto (-51), 3) := by decide +kernel
theorem dX1_letAnswer_56 : decode cX1_letAnswer 56 = .ok (.return_, 1) := by decide +kernel
theorem dX1_letAnswerIn_0 : decode cX1_letAnswerIn 0 = .ok (.iconst 0, 1) := by decide +kernel
theorem dX1_letAnswerIn_1 : decode cX1_letAnswerIn 1 = .ok (.istore_n 2, 1) := by decide +kernel
theorem dX1_letAnswerIn_2 : decode cX1_letAnswerIn 2 = .ok (.iload_n 2, 1) := by decide +kernel
theorem dX1_letAnswerIn_3 : decode cX1_letAnswerIn 3 = .ok (.aload_n 0, 1) := by decide +kernel
theorem dX1_letAnswerIn_4 : decode cX1_letAnswerIn 4 = .ok (.getfield 31, 3) := by decide +kernel
theorem dX1_letAnswerIn_7 : decode cX1_letAnswerIn 7 = .ok (.if_icmp .ge 36, 3) := by decide +kernel
theorem dX1_letAnswerIn_10 : decode cX1_letAnswerIn 10 = .ok (.iload_n 2, 1) := by decide +kernel
theorem dX1_letAnswerIn_11 : decode cX1_letAnswerIn 11 = .ok (.bipush 20, 2) := by decide +kernel
theorem dX1_letAnswerIn_13 : decode cX1_letAnswerIn 13 = .ok (.if_icmp .ge 30, 3) := by decide +kernel
theorem dX1_letAnswerIn_16 : decode cX1_letAnswerIn 16 = .ok (.aload_n 0, 1) := by decide +kernel
theorem dX1_letAnswerIn_17 : decode cX1_letAnswerIn 17 = .ok (.getfield 28, 3) := by decide +kernel
theorem dX1_letAnswerIn_20 : decode cX1_letAnswerIn 20 = .ok (.iload_n 2, 1) := by decide +kernel
theorem dX1_letAnswerIn_21 : decode cX1_letAnswerIn 21 = .ok (.aload_n 0, 1) := by decide +kernel
theorem dX1_letAnswerIn_22 : decode cX1_letAnswerIn 22 = .ok (.getfield 21, 3) := by decide +kernel
theorem dX1_letAnswerIn_25 : decode cX1_letAnswerIn 25 = .ok (.iload_n 2, 1) := by decide +kernel
theorem dX1_letAnswerIn_26 : decode cX1_letAnswerIn 26 = .ok (.iaload, 1) := by decide +kernel
theorem dX1_letAnswerIn_27 : decode cX1_letAnswerIn 27 = .ok (.iload_n 1, 1) := by decide +kernel
theorem dX1_letAnswerIn_28 : decode cX1_letAnswerIn 28 = .ok (.if_icmp .ne 7, 3) := by decide +kernel
theorem dX1_letAnswerIn_31 : decode cX1_letAnswerIn 31 = .ok (.iconst 1, 1) := by decide +kernel
theorem dX1_letAnswerIn_32 : decode cX1_letAnswerIn 32 = .ok (.goto 4, 3) := by decide +kernel
theorem dX1_letAnswerIn_35 : decode cX1_letAnswerIn 35 = .ok (.iconst 0, 1) := by decide +kernel
theorem dX1_letAnswerIn_36 : decode cX1_letAnswerIn 36 = .ok (.bastore, 1) := by decide +kernel
theorem dX1_letAnswerIn_37 : decode cX1_letAnswerIn 37 = .ok (.iinc 2 1, 3) := by decide +kernel
theorem dX1_letAnswerIn_40 : decode cX1_letAnswerIn 40 = .ok (.goto (-38), 3) := by decide +kernel
theorem dX1_letAnswerIn_43 : decode cX1_letAnswerIn 43 = .ok (.return_, 1) := by decide +kernel
theorem dX1_firstAnswering_0 : decode cX1_firstAnswering 0 = .ok (.iconst 0, 1) := by decide +kernel
theorem dX1_firstAnswering_1 : decode cX1_firstAnswering 1 = .ok (.istore_n 1, 1) := by decide +kernel
theorem dX1_firstAnswering_2 : decode cX1_firstAnswering 2 = .ok (.iload_n 1, 1) := by decide +kernel
theorem dX1_firstAnswering_3 : decode cX1_firstAnswering 3 = .ok (.aload_n 0, 1) := by decide +kernel
theorem dX1_firstAnswering_4 : decode cX1_firstAnswering 4 = .ok (.getfield 31, 3) := by decide +kernel
theorem dX1_firstAnswering_7 : decode cX1_firstAnswering 7 = .ok (.if_icmp .ge 26, 3) := by decide +kernel
theorem dX1_firstAnswering_10 : decode cX1_firstAnswering 10 = .ok (.iload_n 1, 1) := by decide +kernel
theorem dX1_firstAnswering_11 : decode cX1_firstAnswering 11 = .ok (.bipush 20, 2) := by decide +kernel
theorem dX1_firstAnswering_13 : decode cX1_firstAnswering 13 = .ok (.if_icmp .ge 20, 3) := by decide +kernel
theorem dX1_firstAnswering_16 : decode cX1_firstAnswering 16 = .ok (.aload_n 0, 1) := by decide +kernel
theorem dX1_firstAnswering_17 : decode cX1_firstAnswering 17 = .ok (.getfield 28, 3) := by decide +kernel
theorem dX1_firstAnswering_20 : decode cX1_firstAnswering 20 = .ok (.iload_n 1, 1) := by decide +kernel
theorem dX1_firstAnswering_21 : decode cX1_firstAnswering 21 = .ok (.baload, 1) := by decide +kernel
theorem dX1_firstAnswering_22 : decode cX1_firstAnswering 22 = .ok (.ifCond .eq 5, 3) := by decide +kernel
theorem dX1_firstAnswering_25 : decode cX1_firstAnswering 25 = .ok (.iload_n 1, 1) := by decide +kernel
theorem dX1_firstAnswering_26 : decode cX1_firstAnswering 26 = .ok (.ireturn, 1) := by decide +kernel
theorem dX1_firstAnswering_27 : decode cX1_firstAnswering 27 = .ok (.iinc 1 1, 3) := by decide +kernel
theorem dX1_firstAnswering_30 : decode cX1_firstAnswering 30 = .ok (.goto (-28), 3) := by decide +kernel
theorem dX1_firstAnswering_33 : decode cX1_firstAnswering 33 = .ok (.iconst (-1), 1) := by decide +kernel
theorem dX1_firstAnswering_34 : decode cX1_firstAnswering 34 = .ok (.ireturn, 1) := by decide +kernel
theorem dX1_differencesFrom_0 : decode cX1_differencesFrom 0 = .ok (.iconst 0, 1) := by decide +kernel
theorem dX1_differencesFrom_1 : decode cX1_differencesFrom 1 = .ok (.istore_n 2, 1) := by decide +kernel
theorem dX1_differencesFrom_2 : decode cX1_differencesFrom 2 = .ok (.iconst 0, 1) := by decide +kernel
theorem dX1_differencesFrom_3 : decode cX1_differencesFrom 3 = .ok (.istore_n 3, 1) := by decide +kernel
theorem dX1_differencesFrom_4 : decode cX1_differencesFrom 4 = .ok (.iload_n 3, 1) := by decide +kernel
theorem dX1_differencesFrom_5 : decode cX1_differencesFrom 5 = .ok (.aload_n 0, 1) := by decide +kernel
theorem dX1_differencesFrom_6 : decode cX1_differencesFrom 6 = .ok (.getfield 31, 3) := by decide +kernel
theorem dX1_differencesFrom_9 : decode cX1_differencesFrom 9 = .ok (.if_icmp .ge 35, 3) := by decide +kernel
theorem dX1_differencesFrom_12 : decode cX1_differencesFrom 12 = .ok (.iload_n 3, 1) := by decide +kernel
theorem dX1_differencesFrom_13 : decode cX1_differencesFrom 13 = .ok (.bipush 20, 2) := by decide +kernel
theorem dX1_differencesFrom_15 : decode cX1_differencesFrom 15 = .ok (.if_icmp .ge 29, 3) := by decide +kernel
theorem dX1_differencesFrom_18 : decode cX1_differencesFrom 18 = .ok (.aload_n 0, 1) := by decide +kernel
theorem dX1_differencesFrom_19 : decode cX1_differencesFrom 19 = .ok (.getfield 28, 3) := by decide +kernel
theorem dX1_differencesFrom_22 : decode cX1_differencesFrom 22 = .ok (.iload_n 3, 1) := by decide +kernel
theorem dX1_differencesFrom_23 : decode cX1_differencesFrom 23 = .ok (.baload, 1) := by decide +kernel
theorem dX1_differencesFrom_24 : decode cX1_differencesFrom 24 = .ok (.ifCond .eq 14, 3) := by decide +kernel
theorem dX1_differencesFrom_27 : decode cX1_differencesFrom 27 = .ok (.iload_n 2, 1) := by decide +kernel
theorem dX1_differencesFrom_28 : decode cX1_differencesFrom 28 = .ok (.aload_n 0, 1) := by decide +kernel
theorem dX1_differencesFrom_29 : decode cX1_differencesFrom 29 = .ok (.getfield 9, 3) := by decide +kernel
theorem dX1_differencesFrom_32 : decode cX1_differencesFrom 32 = .ok (.iload_n 3, 1) := by decide +kernel
theorem dX1_differencesFrom_33 : decode cX1_differencesFrom 33 = .ok (.iaload, 1) := by decide +kernel
theorem dX1_differencesFrom_34 : decode cX1_differencesFrom 34 = .ok (.iload_n 1, 1) := by decide +kernel
theorem dX1_differencesFrom_35 : decode cX1_differencesFrom 35 = .ok (.ixor, 1) := by decide +kernel
theorem dX1_differencesFrom_36 : decode cX1_differencesFrom 36 = .ok (.ior, 1) := by decide +kernel
theorem dX1_differencesFrom_37 : decode cX1_differencesFrom 37 = .ok (.istore_n 2, 1) := by decide +kernel
theorem dX1_differencesFrom_38 : decode cX1_differencesFrom 38 = .ok (.iinc 3 1, 3) := by decide +kernel
theorem dX1_differencesFrom_41 : decode cX1_differencesFrom 41 = .ok (.goto (-37), 3) := by decide +kernel
theorem dX1_differencesFrom_44 : decode cX1_differencesFrom 44 = .ok (.iload_n 2, 1) := by decide +kernel
theorem dX1_differencesFrom_45 : decode cX1_differencesFrom 45 = .ok (.ireturn, 1) := by decide +kernel
theorem dX1_passAsk_0 : decode cX1_passAsk 0 = .ok (.iconst 0, 1) := by decide +kernel
theorem dX1_passAsk_1 : decode cX1_passAsk 1 = .ok (.istore_n 1, 1) := by decide +kernel
theorem dX1_passAsk_2 : decode cX1_passAsk 2 = .ok (.iconst 0, 1) := by decide +kernel
theorem dX1_passAsk_3 : decode cX1_passAsk 3 = .ok (.istore_n 2, 1) := by decide +kernel
theorem dX1_passAsk_4 : decode cX1_passAsk 4 = .ok (.iload_n 2, 1) := by decide +kernel
theorem dX1_passAsk_5 : decode cX1_passAsk 5 = .ok (.aload_n 0, 1) := by decide +kernel
theorem dX1_passAsk_6 : decode cX1_passAsk 6 = .ok (.getfield 31, 3) := by decide +kernel
theorem dX1_passAsk_9 : decode cX1_passAsk 9 = .ok (.if_icmp .ge 54, 3) := by decide +kernel
theorem dX1_passAsk_12 : decode cX1_passAsk 12 = .ok (.iload_n 2, 1) := by decide +kernel
theorem dX1_passAsk_13 : decode cX1_passAsk 13 = .ok (.bipush 20, 2) := by decide +kernel
theorem dX1_passAsk_15 : decode cX1_passAsk 15 = .ok (.if_icmp .ge 48, 3) := by decide +kernel
theorem dX1_passAsk_18 : decode cX1_passAsk 18 = .ok (.aload_n 0, 1) := by decide +kernel
theorem dX1_passAsk_19 : decode cX1_passAsk 19 = .ok (.getfield 15, 3) := by decide +kernel
theorem dX1_passAsk_22 : decode cX1_passAsk 22 = .ok (.iload_n 2, 1) := by decide +kernel
theorem dX1_passAsk_23 : decode cX1_passAsk 23 = .ok (.iaload, 1) := by decide +kernel
theorem dX1_passAsk_24 : decode cX1_passAsk 24 = .ok (.istore_n 3, 1) := by decide +kernel
theorem dX1_passAsk_25 : decode cX1_passAsk 25 = .ok (.iload_n 3, 1) := by decide +kernel
theorem dX1_passAsk_26 : decode cX1_passAsk 26 = .ok (.ifCond .le 12, 3) := by decide +kernel
theorem dX1_passAsk_29 : decode cX1_passAsk 29 = .ok (.aload_n 0, 1) := by decide +kernel
theorem dX1_passAsk_30 : decode cX1_passAsk 30 = .ok (.getfield 15, 3) := by decide +kernel
theorem dX1_passAsk_33 : decode cX1_passAsk 33 = .ok (.iload_n 2, 1) := by decide +kernel
theorem dX1_passAsk_34 : decode cX1_passAsk 34 = .ok (.iload_n 3, 1) := by decide +kernel
theorem dX1_passAsk_35 : decode cX1_passAsk 35 = .ok (.iconst 1, 1) := by decide +kernel
theorem dX1_passAsk_36 : decode cX1_passAsk 36 = .ok (.isub, 1) := by decide +kernel
theorem dX1_passAsk_37 : decode cX1_passAsk 37 = .ok (.iastore, 1) := by decide +kernel
theorem dX1_passAsk_38 : decode cX1_passAsk 38 = .ok (.iload_n 3, 1) := by decide +kernel
theorem dX1_passAsk_39 : decode cX1_passAsk 39 = .ok (.iconst 1, 1) := by decide +kernel
theorem dX1_passAsk_40 : decode cX1_passAsk 40 = .ok (.if_icmp .eq 17, 3) := by decide +kernel
theorem dX1_passAsk_43 : decode cX1_passAsk 43 = .ok (.iload_n 1, 1) := by decide +kernel
theorem dX1_passAsk_44 : decode cX1_passAsk 44 = .ok (.iload_n 2, 1) := by decide +kernel
theorem dX1_passAsk_45 : decode cX1_passAsk 45 = .ok (.if_icmp .ge 9, 3) := by decide +kernel
theorem dX1_passAsk_48 : decode cX1_passAsk 48 = .ok (.aload_n 0, 1) := by decide +kernel
theorem dX1_passAsk_49 : decode cX1_passAsk 49 = .ok (.iload_n 2, 1) := by decide +kernel
theorem dX1_passAsk_50 : decode cX1_passAsk 50 = .ok (.iload_n 1, 1) := by decide +kernel
theorem dX1_passAsk_51 : decode cX1_passAsk 51 = .ok (.invokevirtual 55, 3) := by decide +kernel
theorem dX1_passAsk_54 : decode cX1_passAsk 54 = .ok (.iinc 1 1, 3) := by decide +kernel
theorem dX1_passAsk_57 : decode cX1_passAsk 57 = .ok (.iinc 2 1, 3) := by decide +kernel
theorem dX1_passAsk_60 : decode cX1_passAsk 60 = .ok (.goto (-56), 3) := by decide +kernel
theorem dX1_passAsk_63 : decode cX1_passAsk 63 = .ok (.aload_n 0, 1) := by decide +kernel
theorem dX1_passAsk_64 : decode cX1_passAsk 64 = .ok (.iload_n 1, 1) := by decide +kernel
theorem dX1_passAsk_65 : decode cX1_passAsk 65 = .ok (.putfield 31, 3) := by decide +kernel
theorem dX1_passAsk_68 : decode cX1_passAsk 68 = .ok (.iload_n 2, 1) := by decide +kernel
theorem dX1_passAsk_69 : decode cX1_passAsk 69 = .ok (.iload_n 1, 1) := by decide +kernel
theorem dX1_passAsk_70 : decode cX1_passAsk 70 = .ok (.isub, 1) := by decide +kernel
theorem dX1_passAsk_71 : decode cX1_passAsk 71 = .ok (.ireturn, 1) := by decide +kernel
theorem dX2_init_0 : decode cX2_init 0 = .ok (.aload_n 0, 1) := by decide +kernel
theorem dX2_init_1 : decode cX2_init 1 = .ok (.invokespecial 3, 3) := by decide +kernel
theorem dX2_init_4 : decode cX2_init 4 = .ok (.aload_n 0, 1) := by decide +kernel
theorem dX2_init_5 : decode cX2_init 5 = .ok (.new 9, 3) := by decide +kernel
theorem dX2_init_8 : decode cX2_init 8 = .ok (.dup, 1) := by decide +kernel
theorem dX2_init_9 : decode cX2_init 9 = .ok (.invokespecial 11, 3) := by decide +kernel
theorem dX2_init_12 : decode cX2_init 12 = .ok (.putfield 12, 3) := by decide +kernel
theorem dX2_init_15 : decode cX2_init 15 = .ok (.aload_n 0, 1) := by decide +kernel
theorem dX2_init_16 : decode cX2_init 16 = .ok (.new 18, 3) := by decide +kernel
theorem dX2_init_19 : decode cX2_init 19 = .ok (.dup, 1) := by decide +kernel
theorem dX2_init_20 : decode cX2_init 20 = .ok (.invokespecial 20, 3) := by decide +kernel
theorem dX2_init_23 : decode cX2_init 23 = .ok (.putfield 21, 3) := by decide +kernel
theorem dX2_init_26 : decode cX2_init 26 = .ok (.aload_n 0, 1) := by decide +kernel
theorem dX2_init_27 : decode cX2_init 27 = .ok (.new 25, 3) := by decide +kernel
theorem dX2_init_30 : decode cX2_init 30 = .ok (.dup, 1) := by decide +kernel
theorem dX2_init_31 : decode cX2_init 31 = .ok (.invokespecial 27, 3) := by decide +kernel
theorem dX2_init_34 : decode cX2_init 34 = .ok (.putfield 28, 3) := by decide +kernel
theorem dX2_init_37 : decode cX2_init 37 = .ok (.aload_n 0, 1) := by decide +kernel
theorem dX2_init_38 : decode cX2_init 38 = .ok (.iconst 2, 1) := by decide +kernel
theorem dX2_init_39 : decode cX2_init 39 = .ok (.newarray .int, 2) := by decide +kernel
theorem dX2_init_41 : decode cX2_init 41 = .ok (.putfield 32, 3) := by decide +kernel
theorem dX2_init_44 : decode cX2_init 44 = .ok (.aload_n 0, 1) := by decide +kernel
theorem dX2_init_45 : decode cX2_init 45 = .ok (.iconst 1, 1) := by decide +kernel
theorem dX2_init_46 : decode cX2_init 46 = .ok (.putfield 36, 3) := by decide +kernel
theorem dX2_init_49 : decode cX2_init 49 = .ok (.aload_n 0, 1) := by decide +kernel
theorem dX2_init_50 : decode cX2_init 50 = .ok (.iconst 0, 1) := by decide +kernel
theorem dX2_init_51 : decode cX2_init 51 = .ok (.putfield 40, 3) := by decide +kernel
theorem dX2_init_54 : decode cX2_init 54 = .ok (.aload_n 0, 1) := by decide +kernel
theorem dX2_init_55 : decode cX2_init 55 = .ok (.iconst 0, 1) := by decide +kernel
theorem dX2_init_56 : decode cX2_init 56 = .ok (.putfield 43, 3) := by decide +kernel
theorem dX2_init_59 : decode cX2_init 59 = .ok (.aload_n 0, 1) := by decide +kernel
theorem dX2_init_60 : decode cX2_init 60 = .ok (.getfield 32, 3) := by decide +kernel
theorem dX2_init_63 : decode cX2_init 63 = .ok (.iconst 0, 1) := by decide +kernel
theorem dX2_init_64 : decode cX2_init 64 = .ok (.iconst 1, 1) := by decide +kernel
theorem dX2_init_65 : decode cX2_init 65 = .ok (.iastore, 1) := by decide +kernel
theorem dX2_init_66 : decode cX2_init 66 = .ok (.return_, 1) := by decide +kernel
theorem dX2_copyFrom_0 : decode cX2_copyFrom 0 = .ok (.aload_n 1, 1) := by decide +kernel
theorem dX2_copyFrom_1 : decode cX2_copyFrom 1 = .ok (.ifnonnull 4, 3) := by decide +kernel
theorem dX2_copyFrom_4 : decode cX2_copyFrom 4 = .ok (.return_, 1) := by decide +kernel
theorem dX2_copyFrom_5 : decode cX2_copyFrom 5 = .ok (.aload_n 0, 1) := by decide +kernel
theorem dX2_copyFrom_6 : decode cX2_copyFrom 6 = .ok (.getfield 12, 3) := by decide +kernel
theorem dX2_copyFrom_9 : decode cX2_copyFrom 9 = .ok (.aload_n 1, 1) := by decide +kernel
theorem dX2_copyFrom_10 : decode cX2_copyFrom 10 = .ok (.getfield 12, 3) := by decide +kernel
theorem dX2_copyFrom_13 : decode cX2_copyFrom 13 = .ok (.invokevirtual 46, 3) := by decide +kernel
theorem dX2_copyFrom_16 : decode cX2_copyFrom 16 = .ok (.aload_n 0, 1) := by decide +kernel
theorem dX2_copyFrom_17 : decode cX2_copyFrom 17 = .ok (.getfield 21, 3) := by decide +kernel
theorem dX2_copyFrom_20 : decode cX2_copyFrom 20 = .ok (.aload_n 1, 1) := by decide +kernel
theorem dX2_copyFrom_21 : decode cX2_copyFrom 21 = .ok (.getfield 21, 3) := by decide +kernel
theorem dX2_copyFrom_24 : decode cX2_copyFrom 24 = .ok (.invokevirtual 50, 3) := by decide +kernel
theorem dX2_copyFrom_27 : decode cX2_copyFrom 27 = .ok (.aload_n 0, 1) := by decide +kernel
theorem dX2_copyFrom_28 : decode cX2_copyFrom 28 = .ok (.getfield 28, 3) := by decide +kernel
theorem dX2_copyFrom_31 : decode cX2_copyFrom 31 = .ok (.aload_n 1, 1) := by decide +kernel
theorem dX2_copyFrom_32 : decode cX2_copyFrom 32 = .ok (.getfield 28, 3) := by decide +kernel
theorem dX2_copyFrom_35 : decode cX2_copyFrom 35 = .ok (.invokevirtual 53, 3) := by decide +kernel
theorem dX2_copyFrom_38 : decode cX2_copyFrom 38 = .ok (.aload_n 1, 1) := by decide +kernel
theorem dX2_copyFrom_39 : decode cX2_copyFrom 39 = .ok (.getfield 32, 3) := by decide +kernel
theorem dX2_copyFrom_42 : decode cX2_copyFrom 42 = .ok (.iconst 0, 1) := by decide +kernel
theorem dX2_copyFrom_43 : decode cX2_copyFrom 43 = .ok (.aload_n 0, 1) := by decide +kernel
theorem dX2_copyFrom_44 : decode cX2_copyFrom 44 = .ok (.getfield 32, 3) := by decide +kernel
theorem dX2_copyFrom_47 : decode cX2_copyFrom 47 = .ok (.iconst 0, 1) := by decide +kernel
theorem dX2_copyFrom_48 : decode cX2_copyFrom 48 = .ok (.iconst 2, 1) := by decide +kernel
theorem dX2_copyFrom_49 : decode cX2_copyFrom 49 = .ok (.invokestatic 56, 3) := by decide +kernel
theorem dX2_copyFrom_52 : decode cX2_copyFrom 52 = .ok (.aload_n 0, 1) := by decide +kernel
theorem dX2_copyFrom_53 : decode cX2_copyFrom 53 = .ok (.aload_n 1, 1) := by decide +kernel
theorem dX2_copyFrom_54 : decode cX2_copyFrom 54 = .ok (.getfield 36, 3) := by decide +kernel
theorem dX2_copyFrom_57 : decode cX2_copyFrom 57 = .ok (.putfield 36, 3) := by decide +kernel
theorem dX2_copyFrom_60 : decode cX2_copyFrom 60 = .ok (.return_, 1) := by decide +kernel
theorem dX2_putCard_0 : decode cX2_putCard 0 = .ok (.iload_n 1, 1) := by decide +kernel
theorem dX2_putCard_1 : decode cX2_putCard 1 = .ok (.ifCond .lt 10, 3) := by decide +kernel
theorem dX2_putCard_4 : decode cX2_putCard 4 = .ok (.iload_n 1, 1) := by decide +kernel
theorem dX2_putCard_5 : decode cX2_putCard 5 = .ok (.sipush 255, 3) := by decide +kernel
theorem dX2_putCard_8 : decode cX2_putCard 8 = .ok (.if_icmp .le 6, 3) := by decide +kernel
theorem dX2_putCard_11 : decode cX2_putCard 11 = .ok (.bipush (-2), 2) := by decide +kernel
theorem dX2_putCard_13 : decode cX2_putCard 13 = .ok (.ireturn, 1) := by decide +kernel
theorem dX2_putCard_14 : decode cX2_putCard 14 = .ok (.aload_n 0, 1) := by decide +kernel
theorem dX2_putCard_15 : decode cX2_putCard 15 = .ok (.getfield 12, 3) := by decide +kernel
theorem dX2_putCard_18 : decode cX2_putCard 18 = .ok (.iload_n 1, 1) := by decide +kernel
theorem dX2_putCard_19 : decode cX2_putCard 19 = .ok (.invokevirtual 62, 3) := by decide +kernel
theorem dX2_putCard_22 : decode cX2_putCard 22 = .ok (.iconst (-1), 1) := by decide +kernel
theorem dX2_putCard_23 : decode cX2_putCard 23 = .ok (.if_icmp .eq 6, 3) := by decide +kernel
theorem dX2_putCard_26 : decode cX2_putCard 26 = .ok (.bipush (-4), 2) := by decide +kernel
theorem dX2_putCard_28 : decode cX2_putCard 28 = .ok (.ireturn, 1) := by decide +kernel
theorem dX2_putCard_29 : decode cX2_putCard 29 = .ok (.aload_n 0, 1) := by decide +kernel
theorem dX2_putCard_30 : decode cX2_putCard 30 = .ok (.getfield 12, 3) := by decide +kernel
theorem dX2_putCard_33 : decode cX2_putCard 33 = .ok (.invokevirtual 66, 3) := by decide +kernel
theorem dX2_putCard_36 : decode cX2_putCard 36 = .ok (.bipush 20, 2) := by decide +kernel
theorem dX2_putCard_38 : decode cX2_putCard 38 = .ok (.if_icmp .lt 6, 3) := by decide +kernel
theorem dX2_putCard_41 : decode cX2_putCard 41 = .ok (.bipush (-3), 2) := by decide +kernel
theorem dX2_putCard_43 : decode cX2_putCard 43 = .ok (.ireturn, 1) := by decide +kernel
theorem dX2_putCard_44 : decode cX2_putCard 44 = .ok (.aload_n 0, 1) := by decide +kernel
theorem dX2_putCard_45 : decode cX2_putCard 45 = .ok (.getfield 12, 3) := by decide +kernel
theorem dX2_putCard_48 : decode cX2_putCard 48 = .ok (.iload_n 1, 1) := by decide +kernel
theorem dX2_putCard_49 : decode cX2_putCard 49 = .ok (.invokevirtual 70, 3) := by decide +kernel
theorem dX2_putCard_52 : decode cX2_putCard 52 = .ok (.aload_n 0, 1) := by decide +kernel
theorem dX2_putCard_53 : decode cX2_putCard 53 = .ok (.getfield 12, 3) := by decide +kernel
theorem dX2_putCard_56 : decode cX2_putCard 56 = .ok (.invokevirtual 66, 3) := by decide +kernel
theorem dX2_putCard_59 : decode cX2_putCard 59 = .ok (.ireturn, 1) := by decide +kernel
theorem dX2_takeCard_0 : decode cX2_takeCard 0 = .ok (.aload_n 0, 1) := by decide +kernel
theorem dX2_takeCard_1 : decode cX2_takeCard 1 = .ok (.getfield 12, 3) := by decide +kernel
theorem dX2_takeCard_4 : decode cX2_takeCard 4 = .ok (.iload_n 1, 1) := by decide +kernel
theorem dX2_takeCard_5 : decode cX2_takeCard 5 = .ok (.invokevirtual 62, 3) := by decide +kernel
theorem dX2_takeCard_8 : decode cX2_takeCard 8 = .ok (.istore_n 2, 1) := by decide +kernel
theorem dX2_takeCard_9 : decode cX2_takeCard 9 = .ok (.iload_n 2, 1) := by decide +kernel
theorem dX2_takeCard_10 : decode cX2_takeCard 10 = .ok (.iconst (-1), 1) := by decide +kernel
theorem dX2_takeCard_11 : decode cX2_takeCard 11 = .ok (.if_icmp .ne 5, 3) := by decide +kernel
theorem dX2_takeCard_14 : decode cX2_takeCard 14 = .ok (.iconst (-1), 1) := by decide +kernel
theorem dX2_takeCard_15 : decode cX2_takeCard 15 = .ok (.ireturn, 1) := by decide +kernel
theorem dX2_takeCard_16 : decode cX2_takeCard 16 = .ok (.aload_n 0, 1) := by decide +kernel
theorem dX2_takeCard_17 : decode cX2_takeCard 17 = .ok (.getfield 12, 3) := by decide +kernel
theorem dX2_takeCard_20 : decode cX2_takeCard 20 = .ok (.iload_n 2, 1) := by decide +kernel
theorem dX2_takeCard_21 : decode cX2_takeCard 21 = .ok (.invokevirtual 74, 3) := by decide +kernel
theorem dX2_takeCard_24 : decode cX2_takeCard 24 = .ok (.aload_n 0, 1) := by decide +kernel
theorem dX2_takeCard_25 : decode cX2_takeCard 25 = .ok (.getfield 12, 3) := by decide +kernel
theorem dX2_takeCard_28 : decode cX2_takeCard 28 = .ok (.invokevirtual 66, 3) := by decide +kernel
theorem dX2_takeCard_31 : decode cX2_takeCard 31 = .ok (.ireturn, 1) := by decide +kernel
theorem dX2_sleepCard_0 : decode cX2_sleepCard 0 = .ok (.aload_n 0, 1) := by decide +kernel
theorem dX2_sleepCard_1 : decode cX2_sleepCard 1 = .ok (.getfield 12, 3) := by decide +kernel
theorem dX2_sleepCard_4 : decode cX2_sleepCard 4 = .ok (.iload_n 1, 1) := by decide +kernel
theorem dX2_sleepCard_5 : decode cX2_sleepCard 5 = .ok (.invokevirtual 62, 3) := by decide +kernel
theorem dX2_sleepCard_8 : decode cX2_sleepCard 8 = .ok (.istore_n 2, 1) := by decide +kernel
theorem dX2_sleepCard_9 : decode cX2_sleepCard 9 = .ok (.iload_n 2, 1) := by decide +kernel
theorem dX2_sleepCard_10 : decode cX2_sleepCard 10 = .ok (.iconst (-1), 1) := by decide +kernel
theorem dX2_sleepCard_11 : decode cX2_sleepCard 11 = .ok (.if_icmp .ne 5, 3) := by decide +kernel
theorem dX2_sleepCard_14 : decode cX2_sleepCard 14 = .ok (.iconst (-1), 1) := by decide +kernel
theorem dX2_sleepCard_15 : decode cX2_sleepCard 15 = .ok (.ireturn, 1) := by decide +kernel
theorem dX2_sleepCard_16 : decode cX2_sleepCard 16 = .ok (.aload_n 0, 1) := by decide +kernel
theorem dX2_sleepCard_17 : decode cX2_sleepCard 17 = .ok (.getfield 12, 3) := by decide +kernel
theorem dX2_sleepCard_20 : decode cX2_sleepCard 20 = .ok (.iload_n 2, 1) := by decide +kernel
theorem dX2_sleepCard_21 : decode cX2_sleepCard 21 = .ok (.invokevirtual 77, 3) := by decide +kernel
theorem dX2_sleepCard_24 : decode cX2_sleepCard 24 = .ok (.ifCond .ne 6, 3) := by decide +kernel
theorem dX2_sleepCard_27 : decode cX2_sleepCard 27 = .ok (.bipush (-5), 2) := by decide +kernel
theorem dX2_sleepCard_29 : decode cX2_sleepCard 29 = .ok (.ireturn, 1) := by decide +kernel
theorem dX2_sleepCard_30 : decode cX2_sleepCard 30 = .ok (.aload_n 0, 1) := by decide +kernel
theorem dX2_sleepCard_31 : decode cX2_sleepCard 31 = .ok (.getfield 12, 3) := by decide +kernel
theorem dX2_sleepCard_34 : decode cX2_sleepCard 34 = .ok (.iload_n 2, 1) := by decide +kernel
theorem dX2_sleepCard_35 : decode cX2_sleepCard 35 = .ok (.invokevirtual 81, 3) := by decide +kernel
theorem dX2_sleepCard_38 : decode cX2_sleepCard 38 = .ok (.aload_n 0, 1) := by decide +kernel
theorem dX2_sleepCard_39 : decode cX2_sleepCard 39 = .ok (.getfield 12, 3) := by decide +kernel
theorem dX2_sleepCard_42 : decode cX2_sleepCard 42 = .ok (.invokevirtual 84, 3) := by decide +kernel
theorem dX2_sleepCard_45 : decode cX2_sleepCard 45 = .ok (.ireturn, 1) := by decide +kernel
theorem dX2_wakeCards_0 : decode cX2_wakeCards 0 = .ok (.aload_n 0, 1) := by decide +kernel
theorem dX2_wakeCards_1 : decode cX2_wakeCards 1 = .ok (.getfield 12, 3) := by decide +kernel
theorem dX2_wakeCards_4 : decode cX2_wakeCards 4 = .ok (.invokevirtual 66, 3) := by decide +kernel
theorem dX2_wakeCards_7 : decode cX2_wakeCards 7 = .ok (.aload_n 0, 1) := by decide +kernel
theorem dX2_wakeCards_8 : decode cX2_wakeCards 8 = .ok (.getfield 12, 3) := by decide +kernel
theorem dX2_wakeCards_11 : decode cX2_wakeCards 11 = .ok (.invokevirtual 84, 3) := by decide +kernel
theorem dX2_wakeCards_14 : decode cX2_wakeCards 14 = .ok (.isub, 1) := by decide +kernel
theorem dX2_wakeCards_15 : decode cX2_wakeCards 15 = .ok (.istore_n 1, 1) := by decide +kernel
theorem dX2_wakeCards_16 : decode cX2_wakeCards 16 = .ok (.iload_n 1, 1) := by decide +kernel
theorem dX2_wakeCards_17 : decode cX2_wakeCards 17 = .ok (.ifCond .ne 6, 3) := by decide +kernel
theorem dX2_wakeCards_20 : decode cX2_wakeCards 20 = .ok (.bipush (-5), 2) := by decide +kernel
theorem dX2_wakeCards_22 : decode cX2_wakeCards 22 = .ok (.ireturn, 1) := by decide +kernel
theorem dX2_wakeCards_23 : decode cX2_wakeCards 23 = .ok (.aload_n 0, 1) := by decide +kernel
theorem dX2_wakeCards_24 : decode cX2_wakeCards 24 = .ok (.getfield 12, 3) := by decide +kernel
theorem dX2_wakeCards_27 : decode cX2_wakeCards 27 = .ok (.invokevirtual 87, 3) := by decide +kernel
theorem dX2_wakeCards_30 : decode cX2_wakeCards 30 = .ok (.iload_n 1, 1) := by decide +kernel
theorem dX2_wakeCards_31 : decode cX2_wakeCards 31 = .ok (.ireturn, 1) := by decide +kernel
theorem dX2_leaveBehind_0 : decode cX2_leaveBehind 0 = .ok (.aload_n 0, 1) := by decide +kernel
theorem dX2_leaveBehind_1 : decode cX2_leaveBehind 1 = .ok (.getfield 12, 3) := by decide +kernel
theorem dX2_leaveBehind_4 : decode cX2_leaveBehind 4 = .ok (.iload_n 1, 1) := by decide +kernel
theorem dX2_leaveBehind_5 : decode cX2_leaveBehind 5 = .ok (.invokevirtual 62, 3) := by decide +kernel
theorem dX2_leaveBehind_8 : decode cX2_leaveBehind 8 = .ok (.istore_n 3, 1) := by decide +kernel
theorem dX2_leaveBehind_9 : decode cX2_leaveBehind 9 = .ok (.iload_n 3, 1) := by decide +kernel
theorem dX2_leaveBehind_10 : decode cX2_leaveBehind 10 = .ok (.iconst (-1), 1) := by decide +kernel
theorem dX2_leaveBehind_11 : decode cX2_leaveBehind 11 = .ok (.if_icmp .ne 5, 3) := by decide +kernel
theorem dX2_leaveBehind_14 : decode cX2_leaveBehind 14 = .ok (.iconst (-1), 1) := by decide +kernel
theorem dX2_leaveBehind_15 : decode cX2_leaveBehind 15 = .ok (.ireturn, 1) := by decide +kernel
theorem dX2_leaveBehind_16 : decode cX2_leaveBehind 16 = .ok (.iload_n 2, 1) := by decide +kernel
theorem dX2_leaveBehind_17 : decode cX2_leaveBehind 17 = .ok (.ifCond .lt 10, 3) := by decide +kernel
theorem dX2_leaveBehind_20 : decode cX2_leaveBehind 20 = .ok (.iload_n 2, 1) := by decide +kernel
theorem dX2_leaveBehind_21 : decode cX2_leaveBehind 21 = .ok (.sipush 200, 3) := by decide +kernel
theorem dX2_leaveBehind_24 : decode cX2_leaveBehind 24 = .ok (.if_icmp .le 6, 3) := by decide +kernel
theorem dX2_leaveBehind_27 : decode cX2_leaveBehind 27 = .ok (.bipush (-2), 2) := by decide +kernel
theorem dX2_leaveBehind_29 : decode cX2_leaveBehind 29 = .ok (.ireturn, 1) := by decide +kernel
theorem dX2_leaveBehind_30 : decode cX2_leaveBehind 30 = .ok (.aload_n 0, 1) := by decide +kernel
theorem dX2_leaveBehind_31 : decode cX2_leaveBehind 31 = .ok (.getfield 12, 3) := by decide +kernel
theorem dX2_leaveBehind_34 : decode cX2_leaveBehind 34 = .ok (.iload_n 3, 1) := by decide +kernel
theorem dX2_leaveBehind_35 : decode cX2_leaveBehind 35 = .ok (.invokevirtual 90, 3) := by decide +kernel
theorem dX2_leaveBehind_38 : decode cX2_leaveBehind 38 = .ok (.istore 4, 2) := by decide +kernel
theorem dX2_leaveBehind_40 : decode cX2_leaveBehind 40 = .ok (.iload 4, 2) := by decide +kernel
theorem dX2_leaveBehind_42 : decode cX2_leaveBehind 42 = .ok (.iload_n 2, 1) := by decide +kernel
theorem dX2_leaveBehind_43 : decode cX2_leaveBehind 43 = .ok (.if_icmp .ne 6, 3) := by decide +kernel
theorem dX2_leaveBehind_46 : decode cX2_leaveBehind 46 = .ok (.bipush (-5), 2) := by decide +kernel
theorem dX2_leaveBehind_48 : decode cX2_leaveBehind 48 = .ok (.ireturn, 1) := by decide +kernel
theorem dX2_leaveBehind_49 : decode cX2_leaveBehind 49 = .ok (.aload_n 0, 1) := by decide +kernel
theorem dX2_leaveBehind_50 : decode cX2_leaveBehind 50 = .ok (.getfield 12, 3) := by decide +kernel
theorem dX2_leaveBehind_53 : decode cX2_leaveBehind 53 = .ok (.iload_n 3, 1) := by decide +kernel
theorem dX2_leaveBehind_54 : decode cX2_leaveBehind 54 = .ok (.iload_n 2, 1) := by decide +kernel
theorem dX2_leaveBehind_55 : decode cX2_leaveBehind 55 = .ok (.invokevirtual 93, 3) := by decide +kernel
theorem dX2_leaveBehind_58 : decode cX2_leaveBehind 58 = .ok (.iload 4, 2) := by decide +kernel
theorem dX2_leaveBehind_60 : decode cX2_leaveBehind 60 = .ok (.ireturn, 1) := by decide +kernel
theorem dX2_setTo_0 : decode cX2_setTo 0 = .ok (.iload_n 1, 1) := by decide +kernel
theorem dX2_setTo_1 : decode cX2_setTo 1 = .ok (.ifCond .lt 8, 3) := by decide +kernel
theorem dX2_setTo_4 : decode cX2_setTo 4 = .ok (.iload_n 1, 1) := by decide +kernel
theorem dX2_setTo_5 : decode cX2_setTo 5 = .ok (.iconst 2, 1) := by decide +kernel
theorem dX2_setTo_6 : decode cX2_setTo 6 = .ok (.if_icmp .lt 5, 3) := by decide +kernel
theorem dX2_setTo_9 : decode cX2_setTo 9 = .ok (.iconst (-1), 1) := by decide +kernel
theorem dX2_setTo_10 : decode cX2_setTo 10 = .ok (.ireturn, 1) := by decide +kernel
theorem dX2_setTo_11 : decode cX2_setTo 11 = .ok (.iload_n 1, 1) := by decide +kernel
theorem dX2_setTo_12 : decode cX2_setTo 12 = .ok (.ifCond .ne 7, 3) := by decide +kernel
theorem dX2_setTo_15 : decode cX2_setTo 15 = .ok (.iconst 1, 1) := by decide +kernel
theorem dX2_setTo_16 : decode cX2_setTo 16 = .ok (.goto 4, 3) := by decide +kernel
theorem dX2_setTo_19 : decode cX2_setTo 19 = .ok (.iconst 2, 1) := by decide +kernel
theorem dX2_setTo_20 : decode cX2_setTo 20 = .ok (.istore_n 3, 1) := by decide +kernel
theorem dX2_setTo_21 : decode cX2_setTo 21 = .ok (.iload_n 2, 1) := by decide +kernel
theorem dX2_setTo_22 : decode cX2_setTo 22 = .ok (.ifCond .lt 8, 3) := by decide +kernel
theorem dX2_setTo_25 : decode cX2_setTo 25 = .ok (.iload_n 2, 1) := by decide +kernel
theorem dX2_setTo_26 : decode cX2_setTo 26 = .ok (.iload_n 3, 1) := by decide +kernel
theorem dX2_setTo_27 : decode cX2_setTo 27 = .ok (.if_icmp .le 6, 3) := by decide +kernel
theorem dX2_setTo_30 : decode cX2_setTo 30 = .ok (.bipush (-2), 2) := by decide +kernel
theorem dX2_setTo_32 : decode cX2_setTo 32 = .ok (.ireturn, 1) := by decide +kernel
theorem dX2_setTo_33 : decode cX2_setTo 33 = .ok (.aload_n 0, 1) := by decide +kernel
theorem dX2_setTo_34 : decode cX2_setTo 34 = .ok (.getfield 32, 3) := by decide +kernel
theorem dX2_setTo_37 : decode cX2_setTo 37 = .ok (.iload_n 1, 1) := by decide +kernel
theorem dX2_setTo_38 : decode cX2_setTo 38 = .ok (.iaload, 1) := by decide +kernel
theorem dX2_setTo_39 : decode cX2_setTo 39 = .ok (.istore 4, 2) := by decide +kernel
theorem dX2_setTo_41 : decode cX2_setTo 41 = .ok (.iload 4, 2) := by decide +kernel
theorem dX2_setTo_43 : decode cX2_setTo 43 = .ok (.iload_n 2, 1) := by decide +kernel
theorem dX2_setTo_44 : decode cX2_setTo 44 = .ok (.if_icmp .ne 6, 3) := by decide +kernel
theorem dX2_setTo_47 : decode cX2_setTo 47 = .ok (.bipush (-5), 2) := by decide +kernel
theorem dX2_setTo_49 : decode cX2_setTo 49 = .ok (.ireturn, 1) := by decide +kernel
theorem dX2_setTo_50 : decode cX2_setTo 50 = .ok (.aload_n 0, 1) := by decide +kernel
theorem dX2_setTo_51 : decode cX2_setTo 51 = .ok (.getfield 32, 3) := by decide +kernel
theorem dX2_setTo_54 : decode cX2_setTo 54 = .ok (.iload_n 1, 1) := by decide +kernel
theorem dX2_setTo_55 : decode cX2_setTo 55 = .ok (.iload_n 2, 1) := by decide +kernel
theorem dX2_setTo_56 : decode cX2_setTo 56 = .ok (.iastore, 1) := by decide +kernel
theorem dX2_setTo_57 : decode cX2_setTo 57 = .ok (.iload 4, 2) := by decide +kernel
theorem dX2_setTo_59 : decode cX2_setTo 59 = .ok (.ireturn, 1) := by decide +kernel
theorem dX2_valueOf_0 : decode cX2_valueOf 0 = .ok (.iload_n 1, 1) := by decide +kernel
theorem dX2_valueOf_1 : decode cX2_valueOf 1 = .ok (.ifCond .lt 17, 3) := by decide +kernel
theorem dX2_valueOf_4 : decode cX2_valueOf 4 = .ok (.iload_n 1, 1) := by decide +kernel
theorem dX2_valueOf_5 : decode cX2_valueOf 5 = .ok (.iconst 2, 1) := by decide +kernel
theorem dX2_valueOf_6 : decode cX2_valueOf 6 = .ok (.if_icmp .ge 12, 3) := by decide +kernel
theorem dX2_valueOf_9 : decode cX2_valueOf 9 = .ok (.aload_n 0, 1) := by decide +kernel
theorem dX2_valueOf_10 : decode cX2_valueOf 10 = .ok (.getfield 32, 3) := by decide +kernel
theorem dX2_valueOf_13 : decode cX2_valueOf 13 = .ok (.iload_n 1, 1) := by decide +kernel
theorem dX2_valueOf_14 : decode cX2_valueOf 14 = .ok (.iaload, 1) := by decide +kernel
theorem dX2_valueOf_15 : decode cX2_valueOf 15 = .ok (.goto 4, 3) := by decide +kernel
theorem dX2_valueOf_18 : decode cX2_valueOf 18 = .ok (.iconst 0, 1) := by decide +kernel
theorem dX2_valueOf_19 : decode cX2_valueOf 19 = .ok (.ireturn, 1) := by decide +kernel
theorem dX2_shuffleTo_0 : decode cX2_shuffleTo 0 = .ok (.iload_n 1, 1) := by decide +kernel
theorem dX2_shuffleTo_1 : decode cX2_shuffleTo 1 = .ok (.ifCond .ge 6, 3) := by decide +kernel
theorem dX2_shuffleTo_4 : decode cX2_shuffleTo 4 = .ok (.bipush (-2), 2) := by decide +kernel
theorem dX2_shuffleTo_6 : decode cX2_shuffleTo 6 = .ok (.ireturn, 1) := by decide +kernel
theorem dX2_shuffleTo_7 : decode cX2_shuffleTo 7 = .ok (.aload_n 0, 1) := by decide +kernel
theorem dX2_shuffleTo_8 : decode cX2_shuffleTo 8 = .ok (.getfield 36, 3) := by decide +kernel
theorem dX2_shuffleTo_11 : decode cX2_shuffleTo 11 = .ok (.istore_n 2, 1) := by decide +kernel
theorem dX2_shuffleTo_12 : decode cX2_shuffleTo 12 = .ok (.iload_n 2, 1) := by decide +kernel
theorem dX2_shuffleTo_13 : decode cX2_shuffleTo 13 = .ok (.iload_n 1, 1) := by decide +kernel
theorem dX2_shuffleTo_14 : decode cX2_shuffleTo 14 = .ok (.if_icmp .ne 6, 3) := by decide +kernel
theorem dX2_shuffleTo_17 : decode cX2_shuffleTo 17 = .ok (.bipush (-5), 2) := by decide +kernel
theorem dX2_shuffleTo_19 : decode cX2_shuffleTo 19 = .ok (.ireturn, 1) := by decide +kernel
theorem dX2_shuffleTo_20 : decode cX2_shuffleTo 20 = .ok (.aload_n 0, 1) := by decide +kernel
theorem dX2_shuffleTo_21 : decode cX2_shuffleTo 21 = .ok (.iload_n 1, 1) := by decide +kernel
theorem dX2_shuffleTo_22 : decode cX2_shuffleTo 22 = .ok (.putfield 36, 3) := by decide +kernel
theorem dX2_shuffleTo_25 : decode cX2_shuffleTo 25 = .ok (.iload_n 2, 1) := by decide +kernel
theorem dX2_shuffleTo_26 : decode cX2_shuffleTo 26 = .ok (.ireturn, 1) := by decide +kernel
theorem dX2_forgetTold_0 : decode cX2_forgetTold 0 = .ok (.aload_n 0, 1) := by decide +kernel
theorem dX2_forgetTold_1 : decode cX2_forgetTold 1 = .ok (.getfield 21, 3) := by decide +kernel
theorem dX2_forgetTold_4 : decode cX2_forgetTold 4 = .ok (.invokevirtual 97, 3) := by decide +kernel
theorem dX2_forgetTold_7 : decode cX2_forgetTold 7 = .ok (.istore_n 1, 1) := by decide +kernel
theorem dX2_forgetTold_8 : decode cX2_forgetTold 8 = .ok (.iload_n 1, 1) := by decide +kernel
theorem dX2_forgetTold_9 : decode cX2_forgetTold 9 = .ok (.ifCond .ne 6, 3) := by decide +kernel
theorem dX2_forgetTold_12 : decode cX2_forgetTold 12 = .ok (.bipush (-5), 2) := by decide +kernel
theorem dX2_forgetTold_14 : decode cX2_forgetTold 14 = .ok (.ireturn, 1) := by decide +kernel
theorem dX2_forgetTold_15 : decode cX2_forgetTold 15 = .ok (.aload_n 0, 1) := by decide +kernel
theorem dX2_forgetTold_16 : decode cX2_forgetTold 16 = .ok (.getfield 21, 3) := by decide +kernel
theorem dX2_forgetTold_19 : decode cX2_forgetTold 19 = .ok (.invokevirtual 100, 3) := by decide +kernel
theorem dX2_forgetTold_22 : decode cX2_forgetTold 22 = .ok (.iload_n 1, 1) := by decide +kernel
theorem dX2_forgetTold_23 : decode cX2_forgetTold 23 = .ok (.ireturn, 1) := by decide +kernel
theorem dX2_askFor_0 : decode cX2_askFor 0 = .ok (.aload_n 0, 1) := by decide +kernel
theorem dX2_askFor_1 : decode cX2_askFor 1 = .ok (.getfield 12, 3) := by decide +kernel
theorem dX2_askFor_4 : decode cX2_askFor 4 = .ok (.iload_n 1, 1) := by decide +kernel
theorem dX2_askFor_5 : decode cX2_askFor 5 = .ok (.iload_n 2, 1) := by decide +kernel
theorem dX2_askFor_6 : decode cX2_askFor 6 = .ok (.invokevirtual 103, 3) := by decide +kernel
theorem dX2_askFor_9 : decode cX2_askFor 9 = .ok (.aload_n 0, 1) := by decide +kernel
theorem dX2_askFor_10 : decode cX2_askFor 10 = .ok (.invokevirtual 106, 3) := by decide +kernel
theorem dX2_askFor_13 : decode cX2_askFor 13 = .ok (.istore_n 3, 1) := by decide +kernel
theorem dX2_askFor_14 : decode cX2_askFor 14 = .ok (.aload_n 0, 1) := by decide +kernel
theorem dX2_askFor_15 : decode cX2_askFor 15 = .ok (.getfield 28, 3) := by decide +kernel
theorem dX2_askFor_18 : decode cX2_askFor 18 = .ok (.dup, 1) := by decide +kernel
theorem dX2_askFor_19 : decode cX2_askFor 19 = .ok (.getfield 109, 3) := by decide +kernel
theorem dX2_askFor_22 : decode cX2_askFor 22 = .ok (.iconst 1, 1) := by decide +kernel
theorem dX2_askFor_23 : decode cX2_askFor 23 = .ok (.iadd, 1) := by decide +kernel
theorem dX2_askFor_24 : decode cX2_askFor 24 = .ok (.putfield 109, 3) := by decide +kernel
theorem dX2_askFor_27 : decode cX2_askFor 27 = .ok (.aload_n 0, 1) := by decide +kernel
theorem dX2_askFor_28 : decode cX2_askFor 28 = .ok (.getfield 28, 3) := by decide +kernel
theorem dX2_askFor_31 : decode cX2_askFor 31 = .ok (.dup, 1) := by decide +kernel
theorem dX2_askFor_32 : decode cX2_askFor 32 = .ok (.getfield 112, 3) := by decide +kernel
theorem dX2_askFor_35 : decode cX2_askFor 35 = .ok (.iconst 4, 1) := by decide +kernel
theorem dX2_askFor_36 : decode cX2_askFor 36 = .ok (.iload_n 1, 1) := by decide +kernel
theorem dX2_askFor_37 : decode cX2_askFor 37 = .ok (.iadd, 1) := by decide +kernel
theorem dX2_askFor_38 : decode cX2_askFor 38 = .ok (.iload_n 3, 1) := by decide +kernel
theorem dX2_askFor_39 : decode cX2_askFor 39 = .ok (.sipush 300, 3) := by decide +kernel
theorem dX2_askFor_42 : decode cX2_askFor 42 = .ok (.if_icmp .ne 7, 3) := by decide +kernel
theorem dX2_askFor_45 : decode cX2_askFor 45 = .ok (.iconst 2, 1) := by decide +kernel
theorem dX2_askFor_46 : decode cX2_askFor 46 = .ok (.goto 11, 3) := by decide +kernel
theorem dX2_askFor_49 : decode cX2_askFor 49 = .ok (.iconst 1, 1) := by decide +kernel
theorem dX2_askFor_50 : decode cX2_askFor 50 = .ok (.bipush 8, 2) := by decide +kernel
theorem dX2_askFor_52 : decode cX2_askFor 52 = .ok (.iload_n 1, 1) := by decide +kernel
theorem dX2_askFor_53 : decode cX2_askFor 53 = .ok (.isub, 1) := by decide +kernel
theorem dX2_askFor_54 : decode cX2_askFor 54 = .ok (.invokestatic 115, 3) := by decide +kernel
theorem dX2_askFor_57 : decode cX2_askFor 57 = .ok (.iadd, 1) := by decide +kernel
theorem dX2_askFor_58 : decode cX2_askFor 58 = .ok (.iadd, 1) := by decide +kernel
theorem dX2_askFor_59 : decode cX2_askFor 59 = .ok (.putfield 112, 3) := by decide +kernel
theorem dX2_askFor_62 : decode cX2_askFor 62 = .ok (.aload_n 0, 1) := by decide +kernel
theorem dX2_askFor_63 : decode cX2_askFor 63 = .ok (.getfield 28, 3) := by decide +kernel
theorem dX2_askFor_66 : decode cX2_askFor 66 = .ok (.dup, 1) := by decide +kernel
theorem dX2_askFor_67 : decode cX2_askFor 67 = .ok (.getfield 121, 3) := by decide +kernel
theorem dX2_askFor_70 : decode cX2_askFor 70 = .ok (.aload_n 0, 1) := by decide +kernel
theorem dX2_askFor_71 : decode cX2_askFor 71 = .ok (.getfield 12, 3) := by decide +kernel
theorem dX2_askFor_74 : decode cX2_askFor 74 = .ok (.invokevirtual 124, 3) := by decide +kernel
theorem dX2_askFor_77 : decode cX2_askFor 77 = .ok (.iadd, 1) := by decide +kernel
theorem dX2_askFor_78 : decode cX2_askFor 78 = .ok (.putfield 121, 3) := by decide +kernel
theorem dX2_askFor_81 : decode cX2_askFor 81 = .ok (.iload_n 3, 1) := by decide +kernel
theorem dX2_askFor_82 : decode cX2_askFor 82 = .ok (.ireturn, 1) := by decide +kernel
theorem dX2_hear_0 : decode cX2_hear 0 = .ok (.aload_n 0, 1) := by decide +kernel
theorem dX2_hear_1 : decode cX2_hear 1 = .ok (.getfield 12, 3) := by decide +kernel
theorem dX2_hear_4 : decode cX2_hear 4 = .ok (.invokevirtual 127, 3) := by decide +kernel
theorem dX2_hear_7 : decode cX2_hear 7 = .ok (.istore_n 1, 1) := by decide +kernel
theorem dX2_hear_8 : decode cX2_hear 8 = .ok (.iload_n 1, 1) := by decide +kernel
theorem dX2_hear_9 : decode cX2_hear 9 = .ok (.iconst (-1), 1) := by decide +kernel
theorem dX2_hear_10 : decode cX2_hear 10 = .ok (.if_icmp .ne 20, 3) := by decide +kernel
theorem dX2_hear_13 : decode cX2_hear 13 = .ok (.aload_n 0, 1) := by decide +kernel
theorem dX2_hear_14 : decode cX2_hear 14 = .ok (.getfield 28, 3) := by decide +kernel
theorem dX2_hear_17 : decode cX2_hear 17 = .ok (.dup, 1) := by decide +kernel
theorem dX2_hear_18 : decode cX2_hear 18 = .ok (.getfield 130, 3) := by decide +kernel
theorem dX2_hear_21 : decode cX2_hear 21 = .ok (.iconst 1, 1) := by decide +kernel
theorem dX2_hear_22 : decode cX2_hear 22 = .ok (.iadd, 1) := by decide +kernel
theorem dX2_hear_23 : decode cX2_hear 23 = .ok (.putfield 130, 3) := by decide +kernel
theorem dX2_hear_26 : decode cX2_hear 26 = .ok (.sipush 300, 3) := by decide +kernel
theorem dX2_hear_29 : decode cX2_hear 29 = .ok (.ireturn, 1) := by decide +kernel
theorem dX2_hear_30 : decode cX2_hear 30 = .ok (.aload_n 0, 1) := by decide +kernel
theorem dX2_hear_31 : decode cX2_hear 31 = .ok (.getfield 12, 3) := by decide +kernel
theorem dX2_hear_34 : decode cX2_hear 34 = .ok (.iload_n 1, 1) := by decide +kernel
theorem dX2_hear_35 : decode cX2_hear 35 = .ok (.invokevirtual 133, 3) := by decide +kernel
theorem dX2_hear_38 : decode cX2_hear 38 = .ok (.istore_n 2, 1) := by decide +kernel
theorem dX2_hear_39 : decode cX2_hear 39 = .ok (.aload_n 0, 1) := by decide +kernel
theorem dX2_hear_40 : decode cX2_hear 40 = .ok (.getfield 12, 3) := by decide +kernel
theorem dX2_hear_43 : decode cX2_hear 43 = .ok (.iload_n 2, 1) := by decide +kernel
theorem dX2_hear_44 : decode cX2_hear 44 = .ok (.invokevirtual 136, 3) := by decide +kernel
theorem dX2_hear_47 : decode cX2_hear 47 = .ok (.istore_n 3, 1) := by decide +kernel
theorem dX2_hear_48 : decode cX2_hear 48 = .ok (.iload_n 3, 1) := by decide +kernel
theorem dX2_hear_49 : decode cX2_hear 49 = .ok (.ifCond .eq 30, 3) := by decide +kernel
theorem dX2_hear_52 : decode cX2_hear 52 = .ok (.aload_n 0, 1) := by decide +kernel
theorem dX2_hear_53 : decode cX2_hear 53 = .ok (.iload_n 2, 1) := by decide +kernel
theorem dX2_hear_54 : decode cX2_hear 54 = .ok (.putfield 43, 3) := by decide +kernel
theorem dX2_hear_57 : decode cX2_hear 57 = .ok (.aload_n 0, 1) := by decide +kernel
theorem dX2_hear_58 : decode cX2_hear 58 = .ok (.getfield 28, 3) := by decide +kernel
theorem dX2_hear_61 : decode cX2_hear 61 = .ok (.dup, 1) := by decide +kernel
theorem dX2_hear_62 : decode cX2_hear 62 = .ok (.getfield 139, 3) := by decide +kernel
theorem dX2_hear_65 : decode cX2_hear 65 = .ok (.iconst 1, 1) := by decide +kernel
theorem dX2_hear_66 : decode cX2_hear 66 = .ok (.iadd, 1) := by decide +kernel
theorem dX2_hear_67 : decode cX2_hear 67 = .ok (.putfield 139, 3) := by decide +kernel
theorem dX2_hear_70 : decode cX2_hear 70 = .ok (.sipush 400, 3) := by decide +kernel
theorem dX2_hear_73 : decode cX2_hear 73 = .ok (.iload_n 3, 1) := by decide +kernel
theorem dX2_hear_74 : decode cX2_hear 74 = .ok (.invokestatic 142, 3) := by decide +kernel
theorem dX2_hear_77 : decode cX2_hear 77 = .ok (.iadd, 1) := by decide +kernel
theorem dX2_hear_78 : decode cX2_hear 78 = .ok (.ireturn, 1) := by decide +kernel
theorem dX2_hear_79 : decode cX2_hear 79 = .ok (.aload_n 0, 1) := by decide +kernel
theorem dX2_hear_80 : decode cX2_hear 80 = .ok (.getfield 28, 3) := by decide +kernel
theorem dX2_hear_83 : decode cX2_hear 83 = .ok (.dup, 1) := by decide +kernel
theorem dX2_hear_84 : decode cX2_hear 84 = .ok (.getfield 145, 3) := by decide +kernel
theorem dX2_hear_87 : decode cX2_hear 87 = .ok (.iconst 1, 1) := by decide +kernel
theorem dX2_hear_88 : decode cX2_hear 88 = .ok (.iadd, 1) := by decide +kernel
theorem dX2_hear_89 : decode cX2_hear 89 = .ok (.putfield 145, 3) := by decide +kernel
theorem dX2_hear_92 : decode cX2_hear 92 = .ok (.aload_n 0, 1) := by decide +kernel
theorem dX2_hear_93 : decode cX2_hear 93 = .ok (.getfield 21, 3) := by decide +kernel
theorem dX2_hear_96 : decode cX2_hear 96 = .ok (.iload_n 2, 1) := by decide +kernel
theorem dX2_hear_97 : decode cX2_hear 97 = .ok (.invokevirtual 147, 3) := by decide +kernel
theorem dX2_hear_100 : decode cX2_hear 100 = .ok (.aload_n 0, 1) := by decide +kernel
theorem dX2_hear_101 : decode cX2_hear 101 = .ok (.getfield 12, 3) := by decide +kernel
theorem dX2_hear_104 : decode cX2_hear 104 = .ok (.iload_n 1, 1) := by decide +kernel
theorem dX2_hear_105 : decode cX2_hear 105 = .ok (.invokevirtual 150, 3) := by decide +kernel
theorem dX2_hear_108 : decode cX2_hear 108 = .ok (.aload_n 0, 1) := by decide +kernel
theorem dX2_hear_109 : decode cX2_hear 109 = .ok (.getfield 32, 3) := by decide +kernel
theorem dX2_hear_112 : decode cX2_hear 112 = .ok (.iconst 0, 1) := by decide +kernel
theorem dX2_hear_113 : decode cX2_hear 113 = .ok (.iaload, 1) := by decide +kernel
theorem dX2_hear_114 : decode cX2_hear 114 = .ok (.ifCond .eq 11, 3) := by decide +kernel
theorem dX2_hear_117 : decode cX2_hear 117 = .ok (.aload_n 0, 1) := by decide +kernel
theorem dX2_hear_118 : decode cX2_hear 118 = .ok (.getfield 12, 3) := by decide +kernel
theorem dX2_hear_121 : decode cX2_hear 121 = .ok (.iload_n 1, 1) := by decide +kernel
theorem dX2_hear_122 : decode cX2_hear 122 = .ok (.invokevirtual 81, 3) := by decide +kernel
theorem dX2_hear_125 : decode cX2_hear 125 = .ok (.iload_n 2, 1) := by decide +kernel
theorem dX2_hear_126 : decode cX2_hear 126 = .ok (.ireturn, 1) := by decide +kernel
theorem dX2_makeWalk_0 : decode cX2_makeWalk 0 = .ok (.aload_n 0, 1) := by decide +kernel
theorem dX2_makeWalk_1 : decode cX2_makeWalk 1 = .ok (.getfield 28, 3) := by decide +kernel
theorem dX2_makeWalk_4 : decode cX2_makeWalk 4 = .ok (.getfield 145, 3) := by decide +kernel
theorem dX2_makeWalk_7 : decode cX2_makeWalk 7 = .ok (.istore_n 2, 1) := by decide +kernel
theorem dX2_makeWalk_8 : decode cX2_makeWalk 8 = .ok (.aload_n 0, 1) := by decide +kernel
theorem dX2_makeWalk_9 : decode cX2_makeWalk 9 = .ok (.iconst 0, 1) := by decide +kernel
theorem dX2_makeWalk_10 : decode cX2_makeWalk 10 = .ok (.putfield 40, 3) := by decide +kernel
theorem dX2_makeWalk_13 : decode cX2_makeWalk 13 = .ok (.aload_n 0, 1) := by decide +kernel
theorem dX2_makeWalk_14 : decode cX2_makeWalk 14 = .ok (.iconst 0, 1) := by decide +kernel
theorem dX2_makeWalk_15 : decode cX2_makeWalk 15 = .ok (.iconst 0, 1) := by decide +kernel
theorem dX2_makeWalk_16 : decode cX2_makeWalk 16 = .ok (.iload_n 1, 1) := by decide +kernel
theorem dX2_makeWalk_17 : decode cX2_makeWalk 17 = .ok (.invokestatic 153, 3) := by decide +kernel
theorem dX2_makeWalk_20 : decode cX2_makeWalk 20 = .ok (.aload_n 0, 1) := by decide +kernel
theorem dX2_makeWalk_21 : decode cX2_makeWalk 21 = .ok (.getfield 28, 3) := by decide +kernel
theorem dX2_makeWalk_24 : decode cX2_makeWalk 24 = .ok (.getfield 145, 3) := by decide +kernel
theorem dX2_makeWalk_27 : decode cX2_makeWalk 27 = .ok (.iload_n 2, 1) := by decide +kernel
theorem dX2_makeWalk_28 : decode cX2_makeWalk 28 = .ok (.isub, 1) := by decide +kernel
theorem dX2_makeWalk_29 : decode cX2_makeWalk 29 = .ok (.ireturn, 1) := by decide +kernel
theorem dX2_walkFrom_0 : decode cX2_walkFrom 0 = .ok (.aload_n 0, 1) := by decide +kernel
theorem dX2_walkFrom_1 : decode cX2_walkFrom 1 = .ok (.ifnull 11, 3) := by decide +kernel
theorem dX2_walkFrom_4 : decode cX2_walkFrom 4 = .ok (.iload_n 1, 1) := by decide +kernel
theorem dX2_walkFrom_5 : decode cX2_walkFrom 5 = .ok (.iload_n 2, 1) := by decide +kernel
theorem dX2_walkFrom_6 : decode cX2_walkFrom 6 = .ok (.invokestatic 157, 3) := by decide +kernel
theorem dX2_walkFrom_9 : decode cX2_walkFrom 9 = .ok (.ifCond .ne 4, 3) := by decide +kernel
theorem dX2_walkFrom_12 : decode cX2_walkFrom 12 = .ok (.return_, 1) := by decide +kernel
theorem dX2_walkFrom_13 : decode cX2_walkFrom 13 = .ok (.aload_n 0, 1) := by decide +kernel
theorem dX2_walkFrom_14 : decode cX2_walkFrom 14 = .ok (.aload_n 0, 1) := by decide +kernel
theorem dX2_walkFrom_15 : decode cX2_walkFrom 15 = .ok (.getfield 40, 3) := by decide +kernel
theorem dX2_walkFrom_18 : decode cX2_walkFrom 18 = .ok (.iload_n 1, 1) := by decide +kernel
theorem dX2_walkFrom_19 : decode cX2_walkFrom 19 = .ok (.invokestatic 115, 3) := by decide +kernel
theorem dX2_walkFrom_22 : decode cX2_walkFrom 22 = .ok (.putfield 40, 3) := by decide +kernel
theorem dX2_walkFrom_25 : decode cX2_walkFrom 25 = .ok (.aload_n 0, 1) := by decide +kernel
theorem dX2_walkFrom_26 : decode cX2_walkFrom 26 = .ok (.iload_n 1, 1) := by decide +kernel
theorem dX2_walkFrom_27 : decode cX2_walkFrom 27 = .ok (.iload_n 2, 1) := by decide +kernel
theorem dX2_walkFrom_28 : decode cX2_walkFrom 28 = .ok (.invokevirtual 161, 3) := by decide +kernel
theorem dX2_walkFrom_31 : decode cX2_walkFrom 31 = .ok (.istore 4, 2) := by decide +kernel
theorem dX2_walkFrom_33 : decode cX2_walkFrom 33 = .ok (.iload 4, 2) := by decide +kernel
theorem dX2_walkFrom_35 : decode cX2_walkFrom 35 = .ok (.sipush 400, 3) := by decide +kernel
theorem dX2_walkFrom_38 : decode cX2_walkFrom 38 = .ok (.if_icmp .ge 4, 3) := by decide +kernel
theorem dX2_walkFrom_41 : decode cX2_walkFrom 41 = .ok (.return_, 1) := by decide +kernel
theorem dX2_walkFrom_42 : decode cX2_walkFrom 42 = .ok (.iload_n 3, 1) := by decide +kernel
theorem dX2_walkFrom_43 : decode cX2_walkFrom 43 = .ok (.ifCond .eq 16, 3) := by decide +kernel
theorem dX2_walkFrom_46 : decode cX2_walkFrom 46 = .ok (.iload_n 1, 1) := by decide +kernel
theorem dX2_walkFrom_47 : decode cX2_walkFrom 47 = .ok (.iload 4, 2) := by decide +kernel
theorem dX2_walkFrom_49 : decode cX2_walkFrom 49 = .ok (.sipush 400, 3) := by decide +kernel
theorem dX2_walkFrom_52 : decode cX2_walkFrom 52 = .ok (.isub, 1) := by decide +kernel
theorem dX2_walkFrom_53 : decode cX2_walkFrom 53 = .ok (.invokestatic 115, 3) := by decide +kernel
theorem dX2_walkFrom_56 : decode cX2_walkFrom 56 = .ok (.goto 4, 3) := by decide +kernel
theorem dX2_walkFrom_59 : decode cX2_walkFrom 59 = .ok (.iload_n 1, 1) := by decide +kernel
theorem dX2_walkFrom_60 : decode cX2_walkFrom 60 = .ok (.istore 5, 2) := by decide +kernel
theorem dX2_walkFrom_62 : decode cX2_walkFrom 62 = .ok (.aload_n 0, 1) := by decide +kernel
theorem dX2_walkFrom_63 : decode cX2_walkFrom 63 = .ok (.getfield 43, 3) := by decide +kernel
theorem dX2_walkFrom_66 : decode cX2_walkFrom 66 = .ok (.iload 5, 2) := by decide +kernel
theorem dX2_walkFrom_68 : decode cX2_walkFrom 68 = .ok (.invokestatic 164, 3) := by decide +kernel
theorem dX2_walkFrom_71 : decode cX2_walkFrom 71 = .ok (.istore 6, 2) := by decide +kernel
theorem dX2_walkFrom_73 : decode cX2_walkFrom 73 = .ok (.aload_n 0, 1) := by decide +kernel
theorem dX2_walkFrom_74 : decode cX2_walkFrom 74 = .ok (.iload 5, 2) := by decide +kernel
theorem dX2_walkFrom_76 : decode cX2_walkFrom 76 = .ok (.iconst 1, 1) := by decide +kernel
theorem dX2_walkFrom_77 : decode cX2_walkFrom 77 = .ok (.iadd, 1) := by decide +kernel
theorem dX2_walkFrom_78 : decode cX2_walkFrom 78 = .ok (.iconst 2, 1) := by decide +kernel
theorem dX2_walkFrom_79 : decode cX2_walkFrom 79 = .ok (.iload 6, 2) := by decide +kernel
theorem dX2_walkFrom_81 : decode cX2_walkFrom 81 = .ok (.imul, 1) := by decide +kernel
theorem dX2_walkFrom_82 : decode cX2_walkFrom 82 = .ok (.iload_n 3, 1) := by decide +kernel
theorem dX2_walkFrom_83 : decode cX2_walkFrom 83 = .ok (.invokestatic 153, 3) := by decide +kernel
theorem dX2_walkFrom_86 : decode cX2_walkFrom 86 = .ok (.aload_n 0, 1) := by decide +kernel
theorem dX2_walkFrom_87 : decode cX2_walkFrom 87 = .ok (.iload 5, 2) := by decide +kernel
theorem dX2_walkFrom_89 : decode cX2_walkFrom 89 = .ok (.iconst 1, 1) := by decide +kernel
theorem dX2_walkFrom_90 : decode cX2_walkFrom 90 = .ok (.iadd, 1) := by decide +kernel
theorem dX2_walkFrom_91 : decode cX2_walkFrom 91 = .ok (.iconst 2, 1) := by decide +kernel
theorem dX2_walkFrom_92 : decode cX2_walkFrom 92 = .ok (.iload 6, 2) := by decide +kernel
theorem dX2_walkFrom_94 : decode cX2_walkFrom 94 = .ok (.imul, 1) := by decide +kernel
theorem dX2_walkFrom_95 : decode cX2_walkFrom 95 = .ok (.iconst 1, 1) := by decide +kernel
theorem dX2_walkFrom_96 : decode cX2_walkFrom 96 = .ok (.iadd, 1) := by decide +kernel
theorem dX2_walkFrom_97 : decode cX2_walkFrom 97 = .ok (.iload_n 3, 1) := by decide +kernel
theorem dX2_walkFrom_98 : decode cX2_walkFrom 98 = .ok (.invokestatic 153, 3) := by decide +kernel
theorem dX2_walkFrom_101 : decode cX2_walkFrom 101 = .ok (.return_, 1) := by decide +kernel
theorem dX2_makeFrame_0 : decode cX2_makeFrame 0 = .ok (.iload_n 1, 1) := by decide +kernel
theorem dX2_makeFrame_1 : decode cX2_makeFrame 1 = .ok (.invokestatic 167, 3) := by decide +kernel
theorem dX2_makeFrame_4 : decode cX2_makeFrame 4 = .ok (.ifCond .ne 6, 3) := by decide +kernel
theorem dX2_makeFrame_7 : decode cX2_makeFrame 7 = .ok (.bipush (-2), 2) := by decide +kernel
theorem dX2_makeFrame_9 : decode cX2_makeFrame 9 = .ok (.ireturn, 1) := by decide +kernel
theorem dX2_makeFrame_10 : decode cX2_makeFrame 10 = .ok (.aload_n 0, 1) := by decide +kernel
theorem dX2_makeFrame_11 : decode cX2_makeFrame 11 = .ok (.getfield 28, 3) := by decide +kernel
theorem dX2_makeFrame_14 : decode cX2_makeFrame 14 = .ok (.getfield 145, 3) := by decide +kernel
theorem dX2_makeFrame_17 : decode cX2_makeFrame 17 = .ok (.istore_n 2, 1) := by decide +kernel
theorem dX2_makeFrame_18 : decode cX2_makeFrame 18 = .ok (.aload_n 0, 1) := by decide +kernel
theorem dX2_makeFrame_19 : decode cX2_makeFrame 19 = .ok (.getfield 28, 3) := by decide +kernel
theorem dX2_makeFrame_22 : decode cX2_makeFrame 22 = .ok (.dup, 1) := by decide +kernel
theorem dX2_makeFrame_23 : decode cX2_makeFrame 23 = .ok (.getfield 170, 3) := by decide +kernel
theorem dX2_makeFrame_26 : decode cX2_makeFrame 26 = .ok (.iconst 1, 1) := by decide +kernel
theorem dX2_makeFrame_27 : decode cX2_makeFrame 27 = .ok (.iadd, 1) := by decide +kernel
theorem dX2_makeFrame_28 : decode cX2_makeFrame 28 = .ok (.putfield 170, 3) := by decide +kernel
theorem dX2_makeFrame_31 : decode cX2_makeFrame 31 = .ok (.aload_n 0, 1) := by decide +kernel
theorem dX2_makeFrame_32 : decode cX2_makeFrame 32 = .ok (.getfield 28, 3) := by decide +kernel
theorem dX2_makeFrame_35 : decode cX2_makeFrame 35 = .ok (.dup, 1) := by decide +kernel
theorem dX2_makeFrame_36 : decode cX2_makeFrame 36 = .ok (.getfield 112, 3) := by decide +kernel
theorem dX2_makeFrame_39 : decode cX2_makeFrame 39 = .ok (.iconst 4, 1) := by decide +kernel
theorem dX2_makeFrame_40 : decode cX2_makeFrame 40 = .ok (.iadd, 1) := by decide +kernel
theorem dX2_makeFrame_41 : decode cX2_makeFrame 41 = .ok (.putfield 112, 3) := by decide +kernel
theorem dX2_makeFrame_44 : decode cX2_makeFrame 44 = .ok (.aload_n 0, 1) := by decide +kernel
theorem dX2_makeFrame_45 : decode cX2_makeFrame 45 = .ok (.iload_n 1, 1) := by decide +kernel
theorem dX2_makeFrame_46 : decode cX2_makeFrame 46 = .ok (.invokevirtual 173, 3) := by decide +kernel
theorem dX2_makeFrame_49 : decode cX2_makeFrame 49 = .ok (.iconst 0, 1) := by decide +kernel
theorem dX2_makeFrame_50 : decode cX2_makeFrame 50 = .ok (.istore_n 3, 1) := by decide +kernel
theorem dX2_makeFrame_51 : decode cX2_makeFrame 51 = .ok (.iload_n 3, 1) := by decide +kernel
theorem dX2_makeFrame_52 : decode cX2_makeFrame 52 = .ok (.iload_n 1, 1) := by decide +kernel
theorem dX2_makeFrame_53 : decode cX2_makeFrame 53 = .ok (.if_icmp .ge 81, 3) := by decide +kernel
theorem dX2_makeFrame_56 : decode cX2_makeFrame 56 = .ok (.aload_n 0, 1) := by decide +kernel
theorem dX2_makeFrame_57 : decode cX2_makeFrame 57 = .ok (.getfield 12, 3) := by decide +kernel
theorem dX2_makeFrame_60 : decode cX2_makeFrame 60 = .ok (.iload_n 3, 1) := by decide +kernel
theorem dX2_makeFrame_61 : decode cX2_makeFrame 61 = .ok (.invokevirtual 176, 3) := by decide +kernel
theorem dX2_makeFrame_64 : decode cX2_makeFrame 64 = .ok (.aload_n 0, 1) := by decide +kernel
theorem dX2_makeFrame_65 : decode cX2_makeFrame 65 = .ok (.invokevirtual 106, 3) := by decide +kernel
theorem dX2_makeFrame_68 : decode cX2_makeFrame 68 = .ok (.istore 4, 2) := by decide +kernel
theorem dX2_makeFrame_70 : decode cX2_makeFrame 70 = .ok (.aload_n 0, 1) := by decide +kernel
theorem dX2_makeFrame_71 : decode cX2_makeFrame 71 = .ok (.getfield 28, 3) := by decide +kernel
theorem dX2_makeFrame_74 : decode cX2_makeFrame 74 = .ok (.dup, 1) := by decide +kernel
theorem dX2_makeFrame_75 : decode cX2_makeFrame 75 = .ok (.getfield 179, 3) := by decide +kernel
theorem dX2_makeFrame_78 : decode cX2_makeFrame 78 = .ok (.iconst 1, 1) := by decide +kernel
theorem dX2_makeFrame_79 : decode cX2_makeFrame 79 = .ok (.iadd, 1) := by decide +kernel
theorem dX2_makeFrame_80 : decode cX2_makeFrame 80 = .ok (.putfield 179, 3) := by decide +kernel
theorem dX2_makeFrame_83 : decode cX2_makeFrame 83 = .ok (.aload_n 0, 1) := by decide +kernel
theorem dX2_makeFrame_84 : decode cX2_makeFrame 84 = .ok (.getfield 28, 3) := by decide +kernel
theorem dX2_makeFrame_87 : decode cX2_makeFrame 87 = .ok (.dup, 1) := by decide +kernel
theorem dX2_makeFrame_88 : decode cX2_makeFrame 88 = .ok (.getfield 112, 3) := by decide +kernel
theorem dX2_makeFrame_91 : decode cX2_makeFrame 91 = .ok (.iload 4, 2) := by decide +kernel
theorem dX2_makeFrame_93 : decode cX2_makeFrame 93 = .ok (.sipush 300, 3) := by decide +kernel
theorem dX2_makeFrame_96 : decode cX2_makeFrame 96 = .ok (.if_icmp .ne 7, 3) := by decide +kernel
theorem dX2_makeFrame_99 : decode cX2_makeFrame 99 = .ok (.iconst 1, 1) := by decide +kernel
theorem dX2_makeFrame_100 : decode cX2_makeFrame 100 = .ok (.goto 5, 3) := by decide +kernel
theorem dX2_makeFrame_103 : decode cX2_makeFrame 103 = .ok (.bipush 9, 2) := by decide +kernel
theorem dX2_makeFrame_105 : decode cX2_makeFrame 105 = .ok (.iadd, 1) := by decide +kernel
theorem dX2_makeFrame_106 : decode cX2_makeFrame 106 = .ok (.putfield 112, 3) := by decide +kernel
theorem dX2_makeFrame_109 : decode cX2_makeFrame 109 = .ok (.aload_n 0, 1) := by decide +kernel
theorem dX2_makeFrame_110 : decode cX2_makeFrame 110 = .ok (.getfield 28, 3) := by decide +kernel
theorem dX2_makeFrame_113 : decode cX2_makeFrame 113 = .ok (.dup, 1) := by decide +kernel
theorem dX2_makeFrame_114 : decode cX2_makeFrame 114 = .ok (.getfield 121, 3) := by decide +kernel
theorem dX2_makeFrame_117 : decode cX2_makeFrame 117 = .ok (.aload_n 0, 1) := by decide +kernel
theorem dX2_makeFrame_118 : decode cX2_makeFrame 118 = .ok (.getfield 12, 3) := by decide +kernel
theorem dX2_makeFrame_121 : decode cX2_makeFrame 121 = .ok (.invokevirtual 124, 3) := by decide +kernel
theorem dX2_makeFrame_124 : decode cX2_makeFrame 124 = .ok (.iadd, 1) := by decide +kernel
theorem dX2_makeFrame_125 : decode cX2_makeFrame 125 = .ok (.putfield 121, 3) := by decide +kernel
theorem dX2_makeFrame_128 : decode cX2_makeFrame 128 = .ok (.iinc 3 1, 3) := by decide +kernel
theorem dX2_makeFrame_131 : decode cX2_makeFrame 131 = .ok (.goto (-80), 3) := by decide +kernel
theorem dX2_makeFrame_134 : decode cX2_makeFrame 134 = .ok (.aload_n 0, 1) := by decide +kernel
theorem dX2_makeFrame_135 : decode cX2_makeFrame 135 = .ok (.getfield 28, 3) := by decide +kernel
theorem dX2_makeFrame_138 : decode cX2_makeFrame 138 = .ok (.getfield 145, 3) := by decide +kernel
theorem dX2_makeFrame_141 : decode cX2_makeFrame 141 = .ok (.iload_n 2, 1) := by decide +kernel
theorem dX2_makeFrame_142 : decode cX2_makeFrame 142 = .ok (.isub, 1) := by decide +kernel
theorem dX2_makeFrame_143 : decode cX2_makeFrame 143 = .ok (.ireturn, 1) := by decide +kernel
theorem dX2_drawSlots_0 : decode cX2_drawSlots 0 = .ok (.aload_n 0, 1) := by decide +kernel
theorem dX2_drawSlots_1 : decode cX2_drawSlots 1 = .ok (.getfield 12, 3) := by decide +kernel
theorem dX2_drawSlots_4 : decode cX2_drawSlots 4 = .ok (.invokevirtual 66, 3) := by decide +kernel
theorem dX2_drawSlots_7 : decode cX2_drawSlots 7 = .ok (.istore_n 2, 1) := by decide +kernel
theorem dX2_drawSlots_8 : decode cX2_drawSlots 8 = .ok (.iconst 0, 1) := by decide +kernel
theorem dX2_drawSlots_9 : decode cX2_drawSlots 9 = .ok (.istore_n 3, 1) := by decide +kernel
theorem dX2_drawSlots_10 : decode cX2_drawSlots 10 = .ok (.iload_n 3, 1) := by decide +kernel
theorem dX2_drawSlots_11 : decode cX2_drawSlots 11 = .ok (.iload_n 2, 1) := by decide +kernel
theorem dX2_drawSlots_12 : decode cX2_drawSlots 12 = .ok (.if_icmp .ge 37, 3) := by decide +kernel
theorem dX2_drawSlots_15 : decode cX2_drawSlots 15 = .ok (.aload_n 0, 1) := by decide +kernel
theorem dX2_drawSlots_16 : decode cX2_drawSlots 16 = .ok (.getfield 12, 3) := by decide +kernel
theorem dX2_drawSlots_19 : decode cX2_drawSlots 19 = .ok (.iload_n 3, 1) := by decide +kernel
theorem dX2_drawSlots_20 : decode cX2_drawSlots 20 = .ok (.aload_n 0, 1) := by decide +kernel
theorem dX2_drawSlots_21 : decode cX2_drawSlots 21 = .ok (.getfield 12, 3) := by decide +kernel
theorem dX2_drawSlots_24 : decode cX2_drawSlots 24 = .ok (.iload_n 3, 1) := by decide +kernel
theorem dX2_drawSlots_25 : decode cX2_drawSlots 25 = .ok (.invokevirtual 77, 3) := by decide +kernel
theorem dX2_drawSlots_28 : decode cX2_drawSlots 28 = .ok (.ifCond .eq 11, 3) := by decide +kernel
theorem dX2_drawSlots_31 : decode cX2_drawSlots 31 = .ok (.aload_n 0, 1) := by decide +kernel
theorem dX2_drawSlots_32 : decode cX2_drawSlots 32 = .ok (.iload_n 1, 1) := by decide +kernel
theorem dX2_drawSlots_33 : decode cX2_drawSlots 33 = .ok (.invokevirtual 182, 3) := by decide +kernel
theorem dX2_drawSlots_36 : decode cX2_drawSlots 36 = .ok (.goto 4, 3) := by decide +kernel
theorem dX2_drawSlots_39 : decode cX2_drawSlots 39 = .ok (.iconst (-1), 1) := by decide +kernel
theorem dX2_drawSlots_40 : decode cX2_drawSlots 40 = .ok (.invokevirtual 185, 3) := by decide +kernel
theorem dX2_drawSlots_43 : decode cX2_drawSlots 43 = .ok (.iinc 3 1, 3) := by decide +kernel
theorem dX2_drawSlots_46 : decode cX2_drawSlots 46 = .ok (.goto (-36), 3) := by decide +kernel
theorem dX2_drawSlots_49 : decode cX2_drawSlots 49 = .ok (.return_, 1) := by decide +kernel
theorem dX2_draw_0 : decode cX2_draw 0 = .ok (.iload_n 1, 1) := by decide +kernel
theorem dX2_draw_1 : decode cX2_draw 1 = .ok (.iconst 1, 1) := by decide +kernel
theorem dX2_draw_2 : decode cX2_draw 2 = .ok (.if_icmp .ge 5, 3) := by decide +kernel
theorem dX2_draw_5 : decode cX2_draw 5 = .ok (.iconst 0, 1) := by decide +kernel
theorem dX2_draw_6 : decode cX2_draw 6 = .ok (.ireturn, 1) := by decide +kernel
theorem dX2_draw_7 : decode cX2_draw 7 = .ok (.aload_n 0, 1) := by decide +kernel
theorem dX2_draw_8 : decode cX2_draw 8 = .ok (.aload_n 0, 1) := by decide +kernel
theorem dX2_draw_9 : decode cX2_draw 9 = .ok (.getfield 36, 3) := by decide +kernel
theorem dX2_draw_12 : decode cX2_draw 12 = .ok (.ldc 188, 2) := by decide +kernel
theorem dX2_draw_14 : decode cX2_draw 14 = .ok (.imul, 1) := by decide +kernel
theorem dX2_draw_15 : decode cX2_draw 15 = .ok (.sipush 12345, 3) := by decide +kernel
theorem dX2_draw_18 : decode cX2_draw 18 = .ok (.iadd, 1) := by decide +kernel
theorem dX2_draw_19 : decode cX2_draw 19 = .ok (.ldc 189, 2) := by decide +kernel
theorem dX2_draw_21 : decode cX2_draw 21 = .ok (.iand, 1) := by decide +kernel
theorem dX2_draw_22 : decode cX2_draw 22 = .ok (.putfield 36, 3) := by decide +kernel
theorem dX2_draw_25 : decode cX2_draw 25 = .ok (.aload_n 0, 1) := by decide +kernel
theorem dX2_draw_26 : decode cX2_draw 26 = .ok (.getfield 36, 3) := by decide +kernel
theorem dX2_draw_29 : decode cX2_draw 29 = .ok (.ldc 190, 2) := by decide +kernel
theorem dX2_draw_31 : decode cX2_draw 31 = .ok (.idiv, 1) := by decide +kernel
theorem dX2_draw_32 : decode cX2_draw 32 = .ok (.iload_n 1, 1) := by decide +kernel
theorem dX2_draw_33 : decode cX2_draw 33 = .ok (.irem, 1) := by decide +kernel
theorem dX2_draw_34 : decode cX2_draw 34 = .ok (.ireturn, 1) := by decide +kernel
theorem dX2_makeRounds_0 : decode cX2_makeRounds 0 = .ok (.iload_n 1, 1) := by decide +kernel
theorem dX2_makeRounds_1 : decode cX2_makeRounds 1 = .ok (.invokestatic 167, 3) := by decide +kernel
theorem dX2_makeRounds_4 : decode cX2_makeRounds 4 = .ok (.ifCond .ne 6, 3) := by decide +kernel
theorem dX2_makeRounds_7 : decode cX2_makeRounds 7 = .ok (.bipush (-2), 2) := by decide +kernel
theorem dX2_makeRounds_9 : decode cX2_makeRounds 9 = .ok (.ireturn, 1) := by decide +kernel
theorem dX2_makeRounds_10 : decode cX2_makeRounds 10 = .ok (.iload_n 1, 1) := by decide +kernel
theorem dX2_makeRounds_11 : decode cX2_makeRounds 11 = .ok (.istore_n 2, 1) := by decide +kernel
theorem dX2_makeRounds_12 : decode cX2_makeRounds 12 = .ok (.iconst 0, 1) := by decide +kernel
theorem dX2_makeRounds_13 : decode cX2_makeRounds 13 = .ok (.istore_n 3, 1) := by decide +kernel
theorem dX2_makeRounds_14 : decode cX2_makeRounds 14 = .ok (.iconst 1, 1) := by decide +kernel
theorem dX2_makeRounds_15 : decode cX2_makeRounds 15 = .ok (.istore 4, 2) := by decide +kernel
theorem dX2_makeRounds_17 : decode cX2_makeRounds 17 = .ok (.iload 4, 2) := by decide +kernel
theorem dX2_makeRounds_19 : decode cX2_makeRounds 19 = .ok (.ifCond .eq 63, 3) := by decide +kernel
theorem dX2_makeRounds_22 : decode cX2_makeRounds 22 = .ok (.iload_n 3, 1) := by decide +kernel
theorem dX2_makeRounds_23 : decode cX2_makeRounds 23 = .ok (.bipush 40, 2) := by decide +kernel
theorem dX2_makeRounds_25 : decode cX2_makeRounds 25 = .ok (.if_icmp .ge 57, 3) := by decide +kernel
theorem dX2_makeRounds_28 : decode cX2_makeRounds 28 = .ok (.aload_n 0, 1) := by decide +kernel
theorem dX2_makeRounds_29 : decode cX2_makeRounds 29 = .ok (.getfield 28, 3) := by decide +kernel
theorem dX2_makeRounds_32 : decode cX2_makeRounds 32 = .ok (.getfield 139, 3) := by decide +kernel
theorem dX2_makeRounds_35 : decode cX2_makeRounds 35 = .ok (.istore 5, 2) := by decide +kernel
theorem dX2_makeRounds_37 : decode cX2_makeRounds 37 = .ok (.aload_n 0, 1) := by decide +kernel
theorem dX2_makeRounds_38 : decode cX2_makeRounds 38 = .ok (.iload_n 2, 1) := by decide +kernel
theorem dX2_makeRounds_39 : decode cX2_makeRounds 39 = .ok (.invokevirtual 191, 3) := by decide +kernel
theorem dX2_makeRounds_42 : decode cX2_makeRounds 42 = .ok (.pop, 1) := by decide +kernel
theorem dX2_makeRounds_43 : decode cX2_makeRounds 43 = .ok (.aload_n 0, 1) := by decide +kernel
theorem dX2_makeRounds_44 : decode cX2_makeRounds 44 = .ok (.getfield 28, 3) := by decide +kernel
theorem dX2_makeRounds_47 : decode cX2_makeRounds 47 = .ok (.getfield 139, 3) := by decide +kernel
theorem dX2_makeRounds_50 : decode cX2_makeRounds 50 = .ok (.iload 5, 2) := by decide +kernel
theorem dX2_makeRounds_52 : decode cX2_makeRounds 52 = .ok (.isub, 1) := by decide +kernel
theorem dX2_makeRounds_53 : decode cX2_makeRounds 53 = .ok (.istore 5, 2) := by decide +kernel
theorem dX2_makeRounds_55 : decode cX2_makeRounds 55 = .ok (.aload_n 0, 1) := by decide +kernel
theorem dX2_makeRounds_56 : decode cX2_makeRounds 56 = .ok (.iload_n 1, 1) := by decide +kernel
theorem dX2_makeRounds_57 : decode cX2_makeRounds 57 = .ok (.iload_n 2, 1) := by decide +kernel
theorem dX2_makeRounds_58 : decode cX2_makeRounds 58 = .ok (.iload 5, 2) := by decide +kernel
theorem dX2_makeRounds_60 : decode cX2_makeRounds 60 = .ok (.invokevirtual 194, 3) := by decide +kernel
theorem dX2_makeRounds_63 : decode cX2_makeRounds 63 = .ok (.istore_n 2, 1) := by decide +kernel
theorem dX2_makeRounds_64 : decode cX2_makeRounds 64 = .ok (.iinc 3 1, 3) := by decide +kernel
theorem dX2_makeRounds_67 : decode cX2_makeRounds 67 = .ok (.iload 5, 2) := by decide +kernel
theorem dX2_makeRounds_69 : decode cX2_makeRounds 69 = .ok (.ifCond .le 7, 3) := by decide +kernel
theorem dX2_makeRounds_72 : decode cX2_makeRounds 72 = .ok (.iconst 1, 1) := by decide +kernel
theorem dX2_makeRounds_73 : decode cX2_makeRounds 73 = .ok (.goto 4, 3) := by decide +kernel
theorem dX2_makeRounds_76 : decode cX2_makeRounds 76 = .ok (.iconst 0, 1) := by decide +kernel
theorem dX2_makeRounds_77 : decode cX2_makeRounds 77 = .ok (.istore 4, 2) := by decide +kernel
theorem dX2_makeRounds_79 : decode cX2_makeRounds 79 = .ok (.goto (-62), 3) := by decide +kernel
theorem dX2_makeRounds_82 : decode cX2_makeRounds 82 = .ok (.iload_n 3, 1) := by decide +kernel
theorem dX2_makeRounds_83 : decode cX2_makeRounds 83 = .ok (.ireturn, 1) := by decide +kernel
theorem dX2_nextSize_0 : decode cX2_nextSize 0 = .ok (.iload_n 1, 1) := by decide +kernel
theorem dX2_nextSize_1 : decode cX2_nextSize 1 = .ok (.istore 4, 2) := by decide +kernel
theorem dX2_nextSize_3 : decode cX2_nextSize 3 = .ok (.aload_n 0, 1) := by decide +kernel
theorem dX2_nextSize_4 : decode cX2_nextSize 4 = .ok (.getfield 32, 3) := by decide +kernel
theorem dX2_nextSize_7 : decode cX2_nextSize 7 = .ok (.iconst 1, 1) := by decide +kernel
theorem dX2_nextSize_8 : decode cX2_nextSize 8 = .ok (.iaload, 1) := by decide +kernel
theorem dX2_nextSize_9 : decode cX2_nextSize 9 = .ok (.iconst 1, 1) := by decide +kernel
theorem dX2_nextSize_10 : decode cX2_nextSize 10 = .ok (.if_icmp .ne 11, 3) := by decide +kernel
theorem dX2_nextSize_13 : decode cX2_nextSize 13 = .ok (.iconst 2, 1) := by decide +kernel
theorem dX2_nextSize_14 : decode cX2_nextSize 14 = .ok (.iload_n 3, 1) := by decide +kernel
theorem dX2_nextSize_15 : decode cX2_nextSize 15 = .ok (.imul, 1) := by decide +kernel
theorem dX2_nextSize_16 : decode cX2_nextSize 16 = .ok (.istore 4, 2) := by decide +kernel
theorem dX2_nextSize_18 : decode cX2_nextSize 18 = .ok (.goto 46, 3) := by decide +kernel
theorem dX2_nextSize_21 : decode cX2_nextSize 21 = .ok (.aload_n 0, 1) := by decide +kernel
theorem dX2_nextSize_22 : decode cX2_nextSize 22 = .ok (.getfield 32, 3) := by decide +kernel
theorem dX2_nextSize_25 : decode cX2_nextSize 25 = .ok (.iconst 1, 1) := by decide +kernel
theorem dX2_nextSize_26 : decode cX2_nextSize 26 = .ok (.iaload, 1) := by decide +kernel
theorem dX2_nextSize_27 : decode cX2_nextSize 27 = .ok (.iconst 2, 1) := by decide +kernel
theorem dX2_nextSize_28 : decode cX2_nextSize 28 = .ok (.if_icmp .ne 36, 3) := by decide +kernel
theorem dX2_nextSize_31 : decode cX2_nextSize 31 = .ok (.iconst 2, 1) := by decide +kernel
theorem dX2_nextSize_32 : decode cX2_nextSize 32 = .ok (.iload_n 3, 1) := by decide +kernel
theorem dX2_nextSize_33 : decode cX2_nextSize 33 = .ok (.imul, 1) := by decide +kernel
theorem dX2_nextSize_34 : decode cX2_nextSize 34 = .ok (.iload_n 2, 1) := by decide +kernel
theorem dX2_nextSize_35 : decode cX2_nextSize 35 = .ok (.if_icmp .le 11, 3) := by decide +kernel
theorem dX2_nextSize_38 : decode cX2_nextSize 38 = .ok (.iconst 2, 1) := by decide +kernel
theorem dX2_nextSize_39 : decode cX2_nextSize 39 = .ok (.iload_n 2, 1) := by decide +kernel
theorem dX2_nextSize_40 : decode cX2_nextSize 40 = .ok (.imul, 1) := by decide +kernel
theorem dX2_nextSize_41 : decode cX2_nextSize 41 = .ok (.istore 4, 2) := by decide +kernel
theorem dX2_nextSize_43 : decode cX2_nextSize 43 = .ok (.goto 21, 3) := by decide +kernel
theorem dX2_nextSize_46 : decode cX2_nextSize 46 = .ok (.iconst 4, 1) := by decide +kernel
theorem dX2_nextSize_47 : decode cX2_nextSize 47 = .ok (.iload_n 3, 1) := by decide +kernel
theorem dX2_nextSize_48 : decode cX2_nextSize 48 = .ok (.imul, 1) := by decide +kernel
theorem dX2_nextSize_49 : decode cX2_nextSize 49 = .ok (.iload_n 2, 1) := by decide +kernel
theorem dX2_nextSize_50 : decode cX2_nextSize 50 = .ok (.if_icmp .gt 11, 3) := by decide +kernel
theorem dX2_nextSize_53 : decode cX2_nextSize 53 = .ok (.iload_n 2, 1) := by decide +kernel
theorem dX2_nextSize_54 : decode cX2_nextSize 54 = .ok (.iconst 2, 1) := by decide +kernel
theorem dX2_nextSize_55 : decode cX2_nextSize 55 = .ok (.idiv, 1) := by decide +kernel
theorem dX2_nextSize_56 : decode cX2_nextSize 56 = .ok (.istore 4, 2) := by decide +kernel
theorem dX2_nextSize_58 : decode cX2_nextSize 58 = .ok (.goto 6, 3) := by decide +kernel
