theorem dX2_nextSize_61 : decode cX2_nextSize 61 = .ok (.iload_n 2, 1) := by decide +kernel
theorem dX2_nextSize_62 : decode cX2_nextSize 62 = .ok (.istore 4, 2) := by decide +kernel
theorem dX2_nextSize_64 : decode cX2_nextSize 64 = .ok (.iconst 1, 1) := by decide +kernel
theorem dX2_nextSize_65 : decode cX2_nextSize 65 = .ok (.bipush 64, 2) := by decide +kernel
theorem dX2_nextSize_67 : decode cX2_nextSize 67 = .ok (.iload 4, 2) := by decide +kernel
theorem dX2_nextSize_69 : decode cX2_nextSize 69 = .ok (.invokestatic 198, 3) := by decide +kernel
theorem dX2_nextSize_72 : decode cX2_nextSize 72 = .ok (.invokestatic 115, 3) := by decide +kernel
theorem dX2_nextSize_75 : decode cX2_nextSize 75 = .ok (.ireturn, 1) := by decide +kernel
theorem dX2_carryOut_0 : decode cX2_carryOut 0 = .ok (.iload_n 1, 1) := by decide +kernel
theorem dX2_carryOut_1 : decode cX2_carryOut 1 = .ok (.bipush 43, 2) := by decide +kernel
theorem dX2_carryOut_3 : decode cX2_carryOut 3 = .ok (.if_icmp .ne 9, 3) := by decide +kernel
theorem dX2_carryOut_6 : decode cX2_carryOut 6 = .ok (.aload_n 0, 1) := by decide +kernel
theorem dX2_carryOut_7 : decode cX2_carryOut 7 = .ok (.iload_n 2, 1) := by decide +kernel
theorem dX2_carryOut_8 : decode cX2_carryOut 8 = .ok (.invokevirtual 201, 3) := by decide +kernel
theorem dX2_carryOut_11 : decode cX2_carryOut 11 = .ok (.ireturn, 1) := by decide +kernel
theorem dX2_carryOut_12 : decode cX2_carryOut 12 = .ok (.iload_n 1, 1) := by decide +kernel
theorem dX2_carryOut_13 : decode cX2_carryOut 13 = .ok (.bipush 45, 2) := by decide +kernel
theorem dX2_carryOut_15 : decode cX2_carryOut 15 = .ok (.if_icmp .ne 9, 3) := by decide +kernel
theorem dX2_carryOut_18 : decode cX2_carryOut 18 = .ok (.aload_n 0, 1) := by decide +kernel
theorem dX2_carryOut_19 : decode cX2_carryOut 19 = .ok (.iload_n 2, 1) := by decide +kernel
theorem dX2_carryOut_20 : decode cX2_carryOut 20 = .ok (.invokevirtual 204, 3) := by decide +kernel
theorem dX2_carryOut_23 : decode cX2_carryOut 23 = .ok (.ireturn, 1) := by decide +kernel
theorem dX2_carryOut_24 : decode cX2_carryOut 24 = .ok (.iload_n 1, 1) := by decide +kernel
theorem dX2_carryOut_25 : decode cX2_carryOut 25 = .ok (.bipush 122, 2) := by decide +kernel
theorem dX2_carryOut_27 : decode cX2_carryOut 27 = .ok (.if_icmp .ne 9, 3) := by decide +kernel
theorem dX2_carryOut_30 : decode cX2_carryOut 30 = .ok (.aload_n 0, 1) := by decide +kernel
theorem dX2_carryOut_31 : decode cX2_carryOut 31 = .ok (.iload_n 2, 1) := by decide +kernel
theorem dX2_carryOut_32 : decode cX2_carryOut 32 = .ok (.invokevirtual 207, 3) := by decide +kernel
theorem dX2_carryOut_35 : decode cX2_carryOut 35 = .ok (.ireturn, 1) := by decide +kernel
theorem dX2_carryOut_36 : decode cX2_carryOut 36 = .ok (.iload_n 1, 1) := by decide +kernel
theorem dX2_carryOut_37 : decode cX2_carryOut 37 = .ok (.bipush 102, 2) := by decide +kernel
theorem dX2_carryOut_39 : decode cX2_carryOut 39 = .ok (.if_icmp .ne 9, 3) := by decide +kernel
theorem dX2_carryOut_42 : decode cX2_carryOut 42 = .ok (.aload_n 0, 1) := by decide +kernel
theorem dX2_carryOut_43 : decode cX2_carryOut 43 = .ok (.iload_n 2, 1) := by decide +kernel
theorem dX2_carryOut_44 : decode cX2_carryOut 44 = .ok (.invokevirtual 191, 3) := by decide +kernel
theorem dX2_carryOut_47 : decode cX2_carryOut 47 = .ok (.ireturn, 1) := by decide +kernel
theorem dX2_carryOut_48 : decode cX2_carryOut 48 = .ok (.iload_n 1, 1) := by decide +kernel
theorem dX2_carryOut_49 : decode cX2_carryOut 49 = .ok (.bipush 97, 2) := by decide +kernel
theorem dX2_carryOut_51 : decode cX2_carryOut 51 = .ok (.if_icmp .ne 8, 3) := by decide +kernel
theorem dX2_carryOut_54 : decode cX2_carryOut 54 = .ok (.aload_n 0, 1) := by decide +kernel
theorem dX2_carryOut_55 : decode cX2_carryOut 55 = .ok (.invokevirtual 210, 3) := by decide +kernel
theorem dX2_carryOut_58 : decode cX2_carryOut 58 = .ok (.ireturn, 1) := by decide +kernel
theorem dX2_carryOut_59 : decode cX2_carryOut 59 = .ok (.aload_n 0, 1) := by decide +kernel
theorem dX2_carryOut_60 : decode cX2_carryOut 60 = .ok (.iload_n 1, 1) := by decide +kernel
theorem dX2_carryOut_61 : decode cX2_carryOut 61 = .ok (.bipush 118, 2) := by decide +kernel
theorem dX2_carryOut_63 : decode cX2_carryOut 63 = .ok (.if_icmp .ne 7, 3) := by decide +kernel
theorem dX2_carryOut_66 : decode cX2_carryOut 66 = .ok (.iconst 1, 1) := by decide +kernel
theorem dX2_carryOut_67 : decode cX2_carryOut 67 = .ok (.goto 4, 3) := by decide +kernel
theorem dX2_carryOut_70 : decode cX2_carryOut 70 = .ok (.iconst 0, 1) := by decide +kernel
theorem dX2_carryOut_71 : decode cX2_carryOut 71 = .ok (.invokevirtual 213, 3) := by decide +kernel
theorem dX2_carryOut_74 : decode cX2_carryOut 74 = .ok (.ireturn, 1) := by decide +kernel
theorem dX3_init_0 : decode cX3_init 0 = .ok (.aload_n 0, 1) := by decide +kernel
theorem dX3_init_1 : decode cX3_init 1 = .ok (.invokespecial 3, 3) := by decide +kernel
theorem dX3_init_4 : decode cX3_init 4 = .ok (.aload_n 0, 1) := by decide +kernel
theorem dX3_init_5 : decode cX3_init 5 = .ok (.iconst 0, 1) := by decide +kernel
theorem dX3_init_6 : decode cX3_init 6 = .ok (.putfield 9, 3) := by decide +kernel
theorem dX3_init_9 : decode cX3_init 9 = .ok (.aload_n 0, 1) := by decide +kernel
theorem dX3_init_10 : decode cX3_init 10 = .ok (.iconst 0, 1) := by decide +kernel
theorem dX3_init_11 : decode cX3_init 11 = .ok (.putfield 15, 3) := by decide +kernel
theorem dX3_init_14 : decode cX3_init 14 = .ok (.aload_n 0, 1) := by decide +kernel
theorem dX3_init_15 : decode cX3_init 15 = .ok (.iconst 0, 1) := by decide +kernel
theorem dX3_init_16 : decode cX3_init 16 = .ok (.putfield 18, 3) := by decide +kernel
theorem dX3_init_19 : decode cX3_init 19 = .ok (.aload_n 0, 1) := by decide +kernel
theorem dX3_init_20 : decode cX3_init 20 = .ok (.iconst 0, 1) := by decide +kernel
theorem dX3_init_21 : decode cX3_init 21 = .ok (.putfield 21, 3) := by decide +kernel
theorem dX3_init_24 : decode cX3_init 24 = .ok (.aload_n 0, 1) := by decide +kernel
theorem dX3_init_25 : decode cX3_init 25 = .ok (.iconst 0, 1) := by decide +kernel
theorem dX3_init_26 : decode cX3_init 26 = .ok (.putfield 24, 3) := by decide +kernel
theorem dX3_init_29 : decode cX3_init 29 = .ok (.aload_n 0, 1) := by decide +kernel
theorem dX3_init_30 : decode cX3_init 30 = .ok (.iconst 0, 1) := by decide +kernel
theorem dX3_init_31 : decode cX3_init 31 = .ok (.putfield 27, 3) := by decide +kernel
theorem dX3_init_34 : decode cX3_init 34 = .ok (.aload_n 0, 1) := by decide +kernel
theorem dX3_init_35 : decode cX3_init 35 = .ok (.iconst 0, 1) := by decide +kernel
theorem dX3_init_36 : decode cX3_init 36 = .ok (.putfield 30, 3) := by decide +kernel
theorem dX3_init_39 : decode cX3_init 39 = .ok (.aload_n 0, 1) := by decide +kernel
theorem dX3_init_40 : decode cX3_init 40 = .ok (.iconst 0, 1) := by decide +kernel
theorem dX3_init_41 : decode cX3_init 41 = .ok (.putfield 33, 3) := by decide +kernel
theorem dX3_init_44 : decode cX3_init 44 = .ok (.return_, 1) := by decide +kernel
theorem dX3_copyFrom_0 : decode cX3_copyFrom 0 = .ok (.aload_n 1, 1) := by decide +kernel
theorem dX3_copyFrom_1 : decode cX3_copyFrom 1 = .ok (.ifnonnull 4, 3) := by decide +kernel
theorem dX3_copyFrom_4 : decode cX3_copyFrom 4 = .ok (.return_, 1) := by decide +kernel
theorem dX3_copyFrom_5 : decode cX3_copyFrom 5 = .ok (.aload_n 0, 1) := by decide +kernel
theorem dX3_copyFrom_6 : decode cX3_copyFrom 6 = .ok (.aload_n 1, 1) := by decide +kernel
theorem dX3_copyFrom_7 : decode cX3_copyFrom 7 = .ok (.getfield 9, 3) := by decide +kernel
theorem dX3_copyFrom_10 : decode cX3_copyFrom 10 = .ok (.putfield 9, 3) := by decide +kernel
theorem dX3_copyFrom_13 : decode cX3_copyFrom 13 = .ok (.aload_n 0, 1) := by decide +kernel
theorem dX3_copyFrom_14 : decode cX3_copyFrom 14 = .ok (.aload_n 1, 1) := by decide +kernel
theorem dX3_copyFrom_15 : decode cX3_copyFrom 15 = .ok (.getfield 15, 3) := by decide +kernel
theorem dX3_copyFrom_18 : decode cX3_copyFrom 18 = .ok (.putfield 15, 3) := by decide +kernel
theorem dX3_copyFrom_21 : decode cX3_copyFrom 21 = .ok (.aload_n 0, 1) := by decide +kernel
theorem dX3_copyFrom_22 : decode cX3_copyFrom 22 = .ok (.aload_n 1, 1) := by decide +kernel
theorem dX3_copyFrom_23 : decode cX3_copyFrom 23 = .ok (.getfield 18, 3) := by decide +kernel
theorem dX3_copyFrom_26 : decode cX3_copyFrom 26 = .ok (.putfield 18, 3) := by decide +kernel
theorem dX3_copyFrom_29 : decode cX3_copyFrom 29 = .ok (.aload_n 0, 1) := by decide +kernel
theorem dX3_copyFrom_30 : decode cX3_copyFrom 30 = .ok (.aload_n 1, 1) := by decide +kernel
theorem dX3_copyFrom_31 : decode cX3_copyFrom 31 = .ok (.getfield 21, 3) := by decide +kernel
theorem dX3_copyFrom_34 : decode cX3_copyFrom 34 = .ok (.putfield 21, 3) := by decide +kernel
theorem dX3_copyFrom_37 : decode cX3_copyFrom 37 = .ok (.aload_n 0, 1) := by decide +kernel
theorem dX3_copyFrom_38 : decode cX3_copyFrom 38 = .ok (.aload_n 1, 1) := by decide +kernel
theorem dX3_copyFrom_39 : decode cX3_copyFrom 39 = .ok (.getfield 24, 3) := by decide +kernel
theorem dX3_copyFrom_42 : decode cX3_copyFrom 42 = .ok (.putfield 24, 3) := by decide +kernel
theorem dX3_copyFrom_45 : decode cX3_copyFrom 45 = .ok (.aload_n 0, 1) := by decide +kernel
theorem dX3_copyFrom_46 : decode cX3_copyFrom 46 = .ok (.aload_n 1, 1) := by decide +kernel
theorem dX3_copyFrom_47 : decode cX3_copyFrom 47 = .ok (.getfield 27, 3) := by decide +kernel
theorem dX3_copyFrom_50 : decode cX3_copyFrom 50 = .ok (.putfield 27, 3) := by decide +kernel
theorem dX3_copyFrom_53 : decode cX3_copyFrom 53 = .ok (.aload_n 0, 1) := by decide +kernel
theorem dX3_copyFrom_54 : decode cX3_copyFrom 54 = .ok (.aload_n 1, 1) := by decide +kernel
theorem dX3_copyFrom_55 : decode cX3_copyFrom 55 = .ok (.getfield 30, 3) := by decide +kernel
theorem dX3_copyFrom_58 : decode cX3_copyFrom 58 = .ok (.putfield 30, 3) := by decide +kernel
theorem dX3_copyFrom_61 : decode cX3_copyFrom 61 = .ok (.aload_n 0, 1) := by decide +kernel
theorem dX3_copyFrom_62 : decode cX3_copyFrom 62 = .ok (.aload_n 1, 1) := by decide +kernel
theorem dX3_copyFrom_63 : decode cX3_copyFrom 63 = .ok (.getfield 33, 3) := by decide +kernel
theorem dX3_copyFrom_66 : decode cX3_copyFrom 66 = .ok (.putfield 33, 3) := by decide +kernel
theorem dX3_copyFrom_69 : decode cX3_copyFrom 69 = .ok (.return_, 1) := by decide +kernel
theorem dX3_numberOf_0 : decode cX3_numberOf 0 = .ok (.iload_n 1, 1) := by decide +kernel
theorem dX3_numberOf_1 : decode cX3_numberOf 1 = .ok (.tableswitch 99 4 14 #[59, 64, 69, 74, 79, 84, 89, 99, 99, 99, 94], 59) := by decide +kernel
theorem dX3_numberOf_60 : decode cX3_numberOf 60 = .ok (.aload_n 0, 1) := by decide +kernel
theorem dX3_numberOf_61 : decode cX3_numberOf 61 = .ok (.getfield 9, 3) := by decide +kernel
theorem dX3_numberOf_64 : decode cX3_numberOf 64 = .ok (.ireturn, 1) := by decide +kernel
theorem dX3_numberOf_65 : decode cX3_numberOf 65 = .ok (.aload_n 0, 1) := by decide +kernel
theorem dX3_numberOf_66 : decode cX3_numberOf 66 = .ok (.getfield 15, 3) := by decide +kernel
theorem dX3_numberOf_69 : decode cX3_numberOf 69 = .ok (.ireturn, 1) := by decide +kernel
theorem dX3_numberOf_70 : decode cX3_numberOf 70 = .ok (.aload_n 0, 1) := by decide +kernel
theorem dX3_numberOf_71 : decode cX3_numberOf 71 = .ok (.getfield 18, 3) := by decide +kernel
theorem dX3_numberOf_74 : decode cX3_numberOf 74 = .ok (.ireturn, 1) := by decide +kernel
theorem dX3_numberOf_75 : decode cX3_numberOf 75 = .ok (.aload_n 0, 1) := by decide +kernel
theorem dX3_numberOf_76 : decode cX3_numberOf 76 = .ok (.getfield 21, 3) := by decide +kernel
theorem dX3_numberOf_79 : decode cX3_numberOf 79 = .ok (.ireturn, 1) := by decide +kernel
theorem dX3_numberOf_80 : decode cX3_numberOf 80 = .ok (.aload_n 0, 1) := by decide +kernel
theorem dX3_numberOf_81 : decode cX3_numberOf 81 = .ok (.getfield 24, 3) := by decide +kernel
theorem dX3_numberOf_84 : decode cX3_numberOf 84 = .ok (.ireturn, 1) := by decide +kernel
theorem dX3_numberOf_85 : decode cX3_numberOf 85 = .ok (.aload_n 0, 1) := by decide +kernel
theorem dX3_numberOf_86 : decode cX3_numberOf 86 = .ok (.getfield 27, 3) := by decide +kernel
theorem dX3_numberOf_89 : decode cX3_numberOf 89 = .ok (.ireturn, 1) := by decide +kernel
theorem dX3_numberOf_90 : decode cX3_numberOf 90 = .ok (.aload_n 0, 1) := by decide +kernel
theorem dX3_numberOf_91 : decode cX3_numberOf 91 = .ok (.getfield 30, 3) := by decide +kernel
theorem dX3_numberOf_94 : decode cX3_numberOf 94 = .ok (.ireturn, 1) := by decide +kernel
theorem dX3_numberOf_95 : decode cX3_numberOf 95 = .ok (.aload_n 0, 1) := by decide +kernel
theorem dX3_numberOf_96 : decode cX3_numberOf 96 = .ok (.getfield 33, 3) := by decide +kernel
theorem dX3_numberOf_99 : decode cX3_numberOf 99 = .ok (.ireturn, 1) := by decide +kernel
theorem dX3_numberOf_100 : decode cX3_numberOf 100 = .ok (.bipush (-2), 2) := by decide +kernel
theorem dX3_numberOf_102 : decode cX3_numberOf 102 = .ok (.ireturn, 1) := by decide +kernel
theorem dX4_init_0 : decode cX4_init 0 = .ok (.aload_n 0, 1) := by decide +kernel
theorem dX4_init_1 : decode cX4_init 1 = .ok (.invokespecial 3, 3) := by decide +kernel
theorem dX4_init_4 : decode cX4_init 4 = .ok (.aload_n 0, 1) := by decide +kernel
theorem dX4_init_5 : decode cX4_init 5 = .ok (.bipush 60, 2) := by decide +kernel
theorem dX4_init_7 : decode cX4_init 7 = .ok (.newarray .char, 2) := by decide +kernel
theorem dX4_init_9 : decode cX4_init 9 = .ok (.putfield 9, 3) := by decide +kernel
theorem dX4_init_12 : decode cX4_init 12 = .ok (.aload_n 0, 1) := by decide +kernel
theorem dX4_init_13 : decode cX4_init 13 = .ok (.iconst 0, 1) := by decide +kernel
theorem dX4_init_14 : decode cX4_init 14 = .ok (.putfield 15, 3) := by decide +kernel
theorem dX4_init_17 : decode cX4_init 17 = .ok (.aload_n 0, 1) := by decide +kernel
theorem dX4_init_18 : decode cX4_init 18 = .ok (.bipush 30, 2) := by decide +kernel
theorem dX4_init_20 : decode cX4_init 20 = .ok (.newarray .char, 2) := by decide +kernel
theorem dX4_init_22 : decode cX4_init 22 = .ok (.putfield 19, 3) := by decide +kernel
theorem dX4_init_25 : decode cX4_init 25 = .ok (.aload_n 0, 1) := by decide +kernel
theorem dX4_init_26 : decode cX4_init 26 = .ok (.bipush 30, 2) := by decide +kernel
theorem dX4_init_28 : decode cX4_init 28 = .ok (.newarray .int, 2) := by decide +kernel
theorem dX4_init_30 : decode cX4_init 30 = .ok (.putfield 22, 3) := by decide +kernel
theorem dX4_init_33 : decode cX4_init 33 = .ok (.aload_n 0, 1) := by decide +kernel
theorem dX4_init_34 : decode cX4_init 34 = .ok (.iconst 0, 1) := by decide +kernel
theorem dX4_init_35 : decode cX4_init 35 = .ok (.putfield 26, 3) := by decide +kernel
theorem dX4_init_38 : decode cX4_init 38 = .ok (.aload_n 0, 1) := by decide +kernel
theorem dX4_init_39 : decode cX4_init 39 = .ok (.iconst 0, 1) := by decide +kernel
theorem dX4_init_40 : decode cX4_init 40 = .ok (.putfield 29, 3) := by decide +kernel
theorem dX4_init_43 : decode cX4_init 43 = .ok (.aload_n 0, 1) := by decide +kernel
theorem dX4_init_44 : decode cX4_init 44 = .ok (.iconst 0, 1) := by decide +kernel
theorem dX4_init_45 : decode cX4_init 45 = .ok (.putfield 32, 3) := by decide +kernel
theorem dX4_init_48 : decode cX4_init 48 = .ok (.return_, 1) := by decide +kernel
theorem dX4_length_0 : decode cX4_length 0 = .ok (.aload_n 0, 1) := by decide +kernel
theorem dX4_length_1 : decode cX4_length 1 = .ok (.getfield 15, 3) := by decide +kernel
theorem dX4_length_4 : decode cX4_length 4 = .ok (.ireturn, 1) := by decide +kernel
theorem dX4_empty_0 : decode cX4_empty 0 = .ok (.aload_n 0, 1) := by decide +kernel
theorem dX4_empty_1 : decode cX4_empty 1 = .ok (.getfield 15, 3) := by decide +kernel
theorem dX4_empty_4 : decode cX4_empty 4 = .ok (.istore_n 1, 1) := by decide +kernel
theorem dX4_empty_5 : decode cX4_empty 5 = .ok (.aload_n 0, 1) := by decide +kernel
theorem dX4_empty_6 : decode cX4_empty 6 = .ok (.iconst 0, 1) := by decide +kernel
theorem dX4_empty_7 : decode cX4_empty 7 = .ok (.putfield 15, 3) := by decide +kernel
theorem dX4_empty_10 : decode cX4_empty 10 = .ok (.iload_n 1, 1) := by decide +kernel
theorem dX4_empty_11 : decode cX4_empty 11 = .ok (.ireturn, 1) := by decide +kernel
theorem dX4_orders_0 : decode cX4_orders 0 = .ok (.aload_n 0, 1) := by decide +kernel
theorem dX4_orders_1 : decode cX4_orders 1 = .ok (.getfield 26, 3) := by decide +kernel
theorem dX4_orders_4 : decode cX4_orders 4 = .ok (.ireturn, 1) := by decide +kernel
theorem dX4_kindAt_0 : decode cX4_kindAt 0 = .ok (.iload_n 1, 1) := by decide +kernel
theorem dX4_kindAt_1 : decode cX4_kindAt 1 = .ok (.ifCond .lt 18, 3) := by decide +kernel
theorem dX4_kindAt_4 : decode cX4_kindAt 4 = .ok (.iload_n 1, 1) := by decide +kernel
theorem dX4_kindAt_5 : decode cX4_kindAt 5 = .ok (.bipush 30, 2) := by decide +kernel
theorem dX4_kindAt_7 : decode cX4_kindAt 7 = .ok (.if_icmp .ge 12, 3) := by decide +kernel
theorem dX4_kindAt_10 : decode cX4_kindAt 10 = .ok (.aload_n 0, 1) := by decide +kernel
theorem dX4_kindAt_11 : decode cX4_kindAt 11 = .ok (.getfield 19, 3) := by decide +kernel
theorem dX4_kindAt_14 : decode cX4_kindAt 14 = .ok (.iload_n 1, 1) := by decide +kernel
theorem dX4_kindAt_15 : decode cX4_kindAt 15 = .ok (.caload, 1) := by decide +kernel
theorem dX4_kindAt_16 : decode cX4_kindAt 16 = .ok (.goto 4, 3) := by decide +kernel
theorem dX4_kindAt_19 : decode cX4_kindAt 19 = .ok (.iconst 0, 1) := by decide +kernel
theorem dX4_kindAt_20 : decode cX4_kindAt 20 = .ok (.ireturn, 1) := by decide +kernel
theorem dX4_numberAt_0 : decode cX4_numberAt 0 = .ok (.iload_n 1, 1) := by decide +kernel
theorem dX4_numberAt_1 : decode cX4_numberAt 1 = .ok (.ifCond .lt 18, 3) := by decide +kernel
theorem dX4_numberAt_4 : decode cX4_numberAt 4 = .ok (.iload_n 1, 1) := by decide +kernel
theorem dX4_numberAt_5 : decode cX4_numberAt 5 = .ok (.bipush 30, 2) := by decide +kernel
theorem dX4_numberAt_7 : decode cX4_numberAt 7 = .ok (.if_icmp .ge 12, 3) := by decide +kernel
theorem dX4_numberAt_10 : decode cX4_numberAt 10 = .ok (.aload_n 0, 1) := by decide +kernel
theorem dX4_numberAt_11 : decode cX4_numberAt 11 = .ok (.getfield 22, 3) := by decide +kernel
theorem dX4_numberAt_14 : decode cX4_numberAt 14 = .ok (.iload_n 1, 1) := by decide +kernel
theorem dX4_numberAt_15 : decode cX4_numberAt 15 = .ok (.iaload, 1) := by decide +kernel
theorem dX4_numberAt_16 : decode cX4_numberAt 16 = .ok (.goto 4, 3) := by decide +kernel
theorem dX4_numberAt_19 : decode cX4_numberAt 19 = .ok (.iconst 0, 1) := by decide +kernel
theorem dX4_numberAt_20 : decode cX4_numberAt 20 = .ok (.ireturn, 1) := by decide +kernel
theorem dX4_readOrders_0 : decode cX4_readOrders 0 = .ok (.aload_n 0, 1) := by decide +kernel
theorem dX4_readOrders_1 : decode cX4_readOrders 1 = .ok (.iconst 0, 1) := by decide +kernel
theorem dX4_readOrders_2 : decode cX4_readOrders 2 = .ok (.putfield 26, 3) := by decide +kernel
theorem dX4_readOrders_5 : decode cX4_readOrders 5 = .ok (.aload_n 0, 1) := by decide +kernel
theorem dX4_readOrders_6 : decode cX4_readOrders 6 = .ok (.iconst 0, 1) := by decide +kernel
theorem dX4_readOrders_7 : decode cX4_readOrders 7 = .ok (.putfield 29, 3) := by decide +kernel
theorem dX4_readOrders_10 : decode cX4_readOrders 10 = .ok (.iconst 0, 1) := by decide +kernel
theorem dX4_readOrders_11 : decode cX4_readOrders 11 = .ok (.istore_n 1, 1) := by decide +kernel
theorem dX4_readOrders_12 : decode cX4_readOrders 12 = .ok (.iload_n 1, 1) := by decide +kernel
theorem dX4_readOrders_13 : decode cX4_readOrders 13 = .ok (.bipush 30, 2) := by decide +kernel
theorem dX4_readOrders_15 : decode cX4_readOrders 15 = .ok (.if_icmp .gt 62, 3) := by decide +kernel
theorem dX4_readOrders_18 : decode cX4_readOrders 18 = .ok (.aload_n 0, 1) := by decide +kernel
theorem dX4_readOrders_19 : decode cX4_readOrders 19 = .ok (.invokevirtual 35, 3) := by decide +kernel
theorem dX4_readOrders_22 : decode cX4_readOrders 22 = .ok (.ifCond .ne 8, 3) := by decide +kernel
theorem dX4_readOrders_25 : decode cX4_readOrders 25 = .ok (.aload_n 0, 1) := by decide +kernel
theorem dX4_readOrders_26 : decode cX4_readOrders 26 = .ok (.getfield 29, 3) := by decide +kernel
theorem dX4_readOrders_29 : decode cX4_readOrders 29 = .ok (.ireturn, 1) := by decide +kernel
theorem dX4_readOrders_30 : decode cX4_readOrders 30 = .ok (.aload_n 0, 1) := by decide +kernel
theorem dX4_readOrders_31 : decode cX4_readOrders 31 = .ok (.getfield 29, 3) := by decide +kernel
theorem dX4_readOrders_34 : decode cX4_readOrders 34 = .ok (.aload_n 0, 1) := by decide +kernel
theorem dX4_readOrders_35 : decode cX4_readOrders 35 = .ok (.getfield 15, 3) := by decide +kernel
theorem dX4_readOrders_38 : decode cX4_readOrders 38 = .ok (.if_icmp .lt 5, 3) := by decide +kernel
theorem dX4_readOrders_41 : decode cX4_readOrders 41 = .ok (.iconst (-1), 1) := by decide +kernel
theorem dX4_readOrders_42 : decode cX4_readOrders 42 = .ok (.ireturn, 1) := by decide +kernel
theorem dX4_readOrders_43 : decode cX4_readOrders 43 = .ok (.aload_n 0, 1) := by decide +kernel
theorem dX4_readOrders_44 : decode cX4_readOrders 44 = .ok (.aload_n 0, 1) := by decide +kernel
theorem dX4_readOrders_45 : decode cX4_readOrders 45 = .ok (.getfield 29, 3) := by decide +kernel
theorem dX4_readOrders_48 : decode cX4_readOrders 48 = .ok (.invokevirtual 39, 3) := by decide +kernel
theorem dX4_readOrders_51 : decode cX4_readOrders 51 = .ok (.bipush 59, 2) := by decide +kernel
theorem dX4_readOrders_53 : decode cX4_readOrders 53 = .ok (.if_icmp .eq 8, 3) := by decide +kernel
theorem dX4_readOrders_56 : decode cX4_readOrders 56 = .ok (.aload_n 0, 1) := by decide +kernel
theorem dX4_readOrders_57 : decode cX4_readOrders 57 = .ok (.getfield 29, 3) := by decide +kernel
theorem dX4_readOrders_60 : decode cX4_readOrders 60 = .ok (.ireturn, 1) := by decide +kernel
theorem dX4_readOrders_61 : decode cX4_readOrders 61 = .ok (.aload_n 0, 1) := by decide +kernel
theorem dX4_readOrders_62 : decode cX4_readOrders 62 = .ok (.dup, 1) := by decide +kernel
theorem dX4_readOrders_63 : decode cX4_readOrders 63 = .ok (.getfield 29, 3) := by decide +kernel
theorem dX4_readOrders_66 : decode cX4_readOrders 66 = .ok (.iconst 1, 1) := by decide +kernel
theorem dX4_readOrders_67 : decode cX4_readOrders 67 = .ok (.iadd, 1) := by decide +kernel
theorem dX4_readOrders_68 : decode cX4_readOrders 68 = .ok (.putfield 29, 3) := by decide +kernel
theorem dX4_readOrders_71 : decode cX4_readOrders 71 = .ok (.iinc 1 1, 3) := by decide +kernel
theorem dX4_readOrders_74 : decode cX4_readOrders 74 = .ok (.goto (-62), 3) := by decide +kernel
theorem dX4_readOrders_77 : decode cX4_readOrders 77 = .ok (.aload_n 0, 1) := by decide +kernel
theorem dX4_readOrders_78 : decode cX4_readOrders 78 = .ok (.getfield 29, 3) := by decide +kernel
theorem dX4_readOrders_81 : decode cX4_readOrders 81 = .ok (.ireturn, 1) := by decide +kernel
theorem dX4_readOrder_0 : decode cX4_readOrder 0 = .ok (.aload_n 0, 1) := by decide +kernel
theorem dX4_readOrder_1 : decode cX4_readOrder 1 = .ok (.aload_n 0, 1) := by decide +kernel
theorem dX4_readOrder_2 : decode cX4_readOrder 2 = .ok (.getfield 29, 3) := by decide +kernel
theorem dX4_readOrder_5 : decode cX4_readOrder 5 = .ok (.invokevirtual 39, 3) := by decide +kernel
theorem dX4_readOrder_8 : decode cX4_readOrder 8 = .ok (.istore_n 1, 1) := by decide +kernel
theorem dX4_readOrder_9 : decode cX4_readOrder 9 = .ok (.iload_n 1, 1) := by decide +kernel
theorem dX4_readOrder_10 : decode cX4_readOrder 10 = .ok (.bipush 43, 2) := by decide +kernel
theorem dX4_readOrder_12 : decode cX4_readOrder 12 = .ok (.if_icmp .eq 15, 3) := by decide +kernel
theorem dX4_readOrder_15 : decode cX4_readOrder 15 = .ok (.iload_n 1, 1) := by decide +kernel
theorem dX4_readOrder_16 : decode cX4_readOrder 16 = .ok (.bipush 45, 2) := by decide +kernel
theorem dX4_readOrder_18 : decode cX4_readOrder 18 = .ok (.if_icmp .eq 9, 3) := by decide +kernel
theorem dX4_readOrder_21 : decode cX4_readOrder 21 = .ok (.iload_n 1, 1) := by decide +kernel
theorem dX4_readOrder_22 : decode cX4_readOrder 22 = .ok (.bipush 122, 2) := by decide +kernel
theorem dX4_readOrder_24 : decode cX4_readOrder 24 = .ok (.if_icmp .ne 7, 3) := by decide +kernel
theorem dX4_readOrder_27 : decode cX4_readOrder 27 = .ok (.iconst 1, 1) := by decide +kernel
theorem dX4_readOrder_28 : decode cX4_readOrder 28 = .ok (.goto 4, 3) := by decide +kernel
theorem dX4_readOrder_31 : decode cX4_readOrder 31 = .ok (.iconst 0, 1) := by decide +kernel
theorem dX4_readOrder_32 : decode cX4_readOrder 32 = .ok (.istore_n 2, 1) := by decide +kernel
theorem dX4_readOrder_33 : decode cX4_readOrder 33 = .ok (.iload_n 1, 1) := by decide +kernel
theorem dX4_readOrder_34 : decode cX4_readOrder 34 = .ok (.bipush 102, 2) := by decide +kernel
theorem dX4_readOrder_36 : decode cX4_readOrder 36 = .ok (.if_icmp .ne 7, 3) := by decide +kernel
theorem dX4_readOrder_39 : decode cX4_readOrder 39 = .ok (.iconst 1, 1) := by decide +kernel
theorem dX4_readOrder_40 : decode cX4_readOrder 40 = .ok (.goto 4, 3) := by decide +kernel
theorem dX4_readOrder_43 : decode cX4_readOrder 43 = .ok (.iconst 0, 1) := by decide +kernel
theorem dX4_readOrder_44 : decode cX4_readOrder 44 = .ok (.istore_n 3, 1) := by decide +kernel
theorem dX4_readOrder_45 : decode cX4_readOrder 45 = .ok (.iload_n 1, 1) := by decide +kernel
theorem dX4_readOrder_46 : decode cX4_readOrder 46 = .ok (.bipush 119, 2) := by decide +kernel
theorem dX4_readOrder_48 : decode cX4_readOrder 48 = .ok (.if_icmp .eq 15, 3) := by decide +kernel
theorem dX4_readOrder_51 : decode cX4_readOrder 51 = .ok (.iload_n 1, 1) := by decide +kernel
theorem dX4_readOrder_52 : decode cX4_readOrder 52 = .ok (.bipush 118, 2) := by decide +kernel
theorem dX4_readOrder_54 : decode cX4_readOrder 54 = .ok (.if_icmp .eq 9, 3) := by decide +kernel
theorem dX4_readOrder_57 : decode cX4_readOrder 57 = .ok (.iload_n 1, 1) := by decide +kernel
theorem dX4_readOrder_58 : decode cX4_readOrder 58 = .ok (.bipush 97, 2) := by decide +kernel
theorem dX4_readOrder_60 : decode cX4_readOrder 60 = .ok (.if_icmp .ne 7, 3) := by decide +kernel
theorem dX4_readOrder_63 : decode cX4_readOrder 63 = .ok (.iconst 1, 1) := by decide +kernel
theorem dX4_readOrder_64 : decode cX4_readOrder 64 = .ok (.goto 4, 3) := by decide +kernel
theorem dX4_readOrder_67 : decode cX4_readOrder 67 = .ok (.iconst 0, 1) := by decide +kernel
theorem dX4_readOrder_68 : decode cX4_readOrder 68 = .ok (.istore 4, 2) := by decide +kernel
theorem dX4_readOrder_70 : decode cX4_readOrder 70 = .ok (.iload_n 2, 1) := by decide +kernel
theorem dX4_readOrder_71 : decode cX4_readOrder 71 = .ok (.ifCond .ne 14, 3) := by decide +kernel
theorem dX4_readOrder_74 : decode cX4_readOrder 74 = .ok (.iload_n 3, 1) := by decide +kernel
theorem dX4_readOrder_75 : decode cX4_readOrder 75 = .ok (.ifCond .ne 10, 3) := by decide +kernel
theorem dX4_readOrder_78 : decode cX4_readOrder 78 = .ok (.iload 4, 2) := by decide +kernel
theorem dX4_readOrder_80 : decode cX4_readOrder 80 = .ok (.ifCond .ne 5, 3) := by decide +kernel
theorem dX4_readOrder_83 : decode cX4_readOrder 83 = .ok (.iconst 0, 1) := by decide +kernel
theorem dX4_readOrder_84 : decode cX4_readOrder 84 = .ok (.ireturn, 1) := by decide +kernel
theorem dX4_readOrder_85 : decode cX4_readOrder 85 = .ok (.aload_n 0, 1) := by decide +kernel
theorem dX4_readOrder_86 : decode cX4_readOrder 86 = .ok (.dup, 1) := by decide +kernel
theorem dX4_readOrder_87 : decode cX4_readOrder 87 = .ok (.getfield 29, 3) := by decide +kernel
theorem dX4_readOrder_90 : decode cX4_readOrder 90 = .ok (.iconst 1, 1) := by decide +kernel
theorem dX4_readOrder_91 : decode cX4_readOrder 91 = .ok (.iadd, 1) := by decide +kernel
theorem dX4_readOrder_92 : decode cX4_readOrder 92 = .ok (.putfield 29, 3) := by decide +kernel
theorem dX4_readOrder_95 : decode cX4_readOrder 95 = .ok (.aload_n 0, 1) := by decide +kernel
theorem dX4_readOrder_96 : decode cX4_readOrder 96 = .ok (.iconst 0, 1) := by decide +kernel
theorem dX4_readOrder_97 : decode cX4_readOrder 97 = .ok (.putfield 32, 3) := by decide +kernel
theorem dX4_readOrder_100 : decode cX4_readOrder 100 = .ok (.iload_n 2, 1) := by decide +kernel
theorem dX4_readOrder_101 : decode cX4_readOrder 101 = .ok (.ifCond .eq 16, 3) := by decide +kernel
theorem dX4_readOrder_104 : decode cX4_readOrder 104 = .ok (.aload_n 0, 1) := by decide +kernel
theorem dX4_readOrder_105 : decode cX4_readOrder 105 = .ok (.iconst 0, 1) := by decide +kernel
theorem dX4_readOrder_106 : decode cX4_readOrder 106 = .ok (.sipush 255, 3) := by decide +kernel
theorem dX4_readOrder_109 : decode cX4_readOrder 109 = .ok (.invokevirtual 43, 3) := by decide +kernel
theorem dX4_readOrder_112 : decode cX4_readOrder 112 = .ok (.ifCond .ne 5, 3) := by decide +kernel
theorem dX4_readOrder_115 : decode cX4_readOrder 115 = .ok (.iconst 0, 1) := by decide +kernel
theorem dX4_readOrder_116 : decode cX4_readOrder 116 = .ok (.ireturn, 1) := by decide +kernel
theorem dX4_readOrder_117 : decode cX4_readOrder 117 = .ok (.iload_n 3, 1) := by decide +kernel
theorem dX4_readOrder_118 : decode cX4_readOrder 118 = .ok (.ifCond .eq 15, 3) := by decide +kernel
theorem dX4_readOrder_121 : decode cX4_readOrder 121 = .ok (.aload_n 0, 1) := by decide +kernel
theorem dX4_readOrder_122 : decode cX4_readOrder 122 = .ok (.iconst 1, 1) := by decide +kernel
theorem dX4_readOrder_123 : decode cX4_readOrder 123 = .ok (.bipush 64, 2) := by decide +kernel
theorem dX4_readOrder_125 : decode cX4_readOrder 125 = .ok (.invokevirtual 43, 3) := by decide +kernel
theorem dX4_readOrder_128 : decode cX4_readOrder 128 = .ok (.ifCond .ne 5, 3) := by decide +kernel
theorem dX4_readOrder_131 : decode cX4_readOrder 131 = .ok (.iconst 0, 1) := by decide +kernel
theorem dX4_readOrder_132 : decode cX4_readOrder 132 = .ok (.ireturn, 1) := by decide +kernel
theorem dX4_readOrder_133 : decode cX4_readOrder 133 = .ok (.aload_n 0, 1) := by decide +kernel
theorem dX4_readOrder_134 : decode cX4_readOrder 134 = .ok (.getfield 26, 3) := by decide +kernel
theorem dX4_readOrder_137 : decode cX4_readOrder 137 = .ok (.ifCond .lt 45, 3) := by decide +kernel
theorem dX4_readOrder_140 : decode cX4_readOrder 140 = .ok (.aload_n 0, 1) := by decide +kernel
theorem dX4_readOrder_141 : decode cX4_readOrder 141 = .ok (.getfield 26, 3) := by decide +kernel
theorem dX4_readOrder_144 : decode cX4_readOrder 144 = .ok (.bipush 30, 2) := by decide +kernel
theorem dX4_readOrder_146 : decode cX4_readOrder 146 = .ok (.if_icmp .ge 36, 3) := by decide +kernel
theorem dX4_readOrder_149 : decode cX4_readOrder 149 = .ok (.aload_n 0, 1) := by decide +kernel
theorem dX4_readOrder_150 : decode cX4_readOrder 150 = .ok (.getfield 19, 3) := by decide +kernel
theorem dX4_readOrder_153 : decode cX4_readOrder 153 = .ok (.aload_n 0, 1) := by decide +kernel
theorem dX4_readOrder_154 : decode cX4_readOrder 154 = .ok (.getfield 26, 3) := by decide +kernel
theorem dX4_readOrder_157 : decode cX4_readOrder 157 = .ok (.iload_n 1, 1) := by decide +kernel
theorem dX4_readOrder_158 : decode cX4_readOrder 158 = .ok (.castore, 1) := by decide +kernel
theorem dX4_readOrder_159 : decode cX4_readOrder 159 = .ok (.aload_n 0, 1) := by decide +kernel
theorem dX4_readOrder_160 : decode cX4_readOrder 160 = .ok (.getfield 22, 3) := by decide +kernel
theorem dX4_readOrder_163 : decode cX4_readOrder 163 = .ok (.aload_n 0, 1) := by decide +kernel
theorem dX4_readOrder_164 : decode cX4_readOrder 164 = .ok (.getfield 26, 3) := by decide +kernel
theorem dX4_readOrder_167 : decode cX4_readOrder 167 = .ok (.aload_n 0, 1) := by decide +kernel
theorem dX4_readOrder_168 : decode cX4_readOrder 168 = .ok (.getfield 32, 3) := by decide +kernel
theorem dX4_readOrder_171 : decode cX4_readOrder 171 = .ok (.iastore, 1) := by decide +kernel
theorem dX4_readOrder_172 : decode cX4_readOrder 172 = .ok (.aload_n 0, 1) := by decide +kernel
theorem dX4_readOrder_173 : decode cX4_readOrder 173 = .ok (.dup, 1) := by decide +kernel
theorem dX4_readOrder_174 : decode cX4_readOrder 174 = .ok (.getfield 26, 3) := by decide +kernel
theorem dX4_readOrder_177 : decode cX4_readOrder 177 = .ok (.iconst 1, 1) := by decide +kernel
theorem dX4_readOrder_178 : decode cX4_readOrder 178 = .ok (.iadd, 1) := by decide +kernel
theorem dX4_readOrder_179 : decode cX4_readOrder 179 = .ok (.putfield 26, 3) := by decide +kernel
theorem dX4_readOrder_182 : decode cX4_readOrder 182 = .ok (.iconst 1, 1) := by decide +kernel
theorem dX4_readOrder_183 : decode cX4_readOrder 183 = .ok (.ireturn, 1) := by decide +kernel
theorem dX4_readNumber_0 : decode cX4_readNumber 0 = .ok (.aload_n 0, 1) := by decide +kernel
theorem dX4_readNumber_1 : decode cX4_readNumber 1 = .ok (.aload_n 0, 1) := by decide +kernel
theorem dX4_readNumber_2 : decode cX4_readNumber 2 = .ok (.getfield 29, 3) := by decide +kernel
theorem dX4_readNumber_5 : decode cX4_readNumber 5 = .ok (.invokevirtual 47, 3) := by decide +kernel
theorem dX4_readNumber_8 : decode cX4_readNumber 8 = .ok (.istore_n 3, 1) := by decide +kernel
theorem dX4_readNumber_9 : decode cX4_readNumber 9 = .ok (.iload_n 3, 1) := by decide +kernel
theorem dX4_readNumber_10 : decode cX4_readNumber 10 = .ok (.ifCond .lt 8, 3) := by decide +kernel
theorem dX4_readNumber_13 : decode cX4_readNumber 13 = .ok (.iload_n 3, 1) := by decide +kernel
theorem dX4_readNumber_14 : decode cX4_readNumber 14 = .ok (.iload_n 1, 1) := by decide +kernel
theorem dX4_readNumber_15 : decode cX4_readNumber 15 = .ok (.if_icmp .ge 5, 3) := by decide +kernel
theorem dX4_readNumber_18 : decode cX4_readNumber 18 = .ok (.iconst 0, 1) := by decide +kernel
theorem dX4_readNumber_19 : decode cX4_readNumber 19 = .ok (.ireturn, 1) := by decide +kernel
theorem dX4_readNumber_20 : decode cX4_readNumber 20 = .ok (.aload_n 0, 1) := by decide +kernel
theorem dX4_readNumber_21 : decode cX4_readNumber 21 = .ok (.iload_n 3, 1) := by decide +kernel
theorem dX4_readNumber_22 : decode cX4_readNumber 22 = .ok (.putfield 32, 3) := by decide +kernel
theorem dX4_readNumber_25 : decode cX4_readNumber 25 = .ok (.aload_n 0, 1) := by decide +kernel
theorem dX4_readNumber_26 : decode cX4_readNumber 26 = .ok (.dup, 1) := by decide +kernel
theorem dX4_readNumber_27 : decode cX4_readNumber 27 = .ok (.getfield 29, 3) := by decide +kernel
theorem dX4_readNumber_30 : decode cX4_readNumber 30 = .ok (.iconst 1, 1) := by decide +kernel
theorem dX4_readNumber_31 : decode cX4_readNumber 31 = .ok (.iadd, 1) := by decide +kernel
theorem dX4_readNumber_32 : decode cX4_readNumber 32 = .ok (.putfield 29, 3) := by decide +kernel
theorem dX4_readNumber_35 : decode cX4_readNumber 35 = .ok (.iconst 1, 1) := by decide +kernel
theorem dX4_readNumber_36 : decode cX4_readNumber 36 = .ok (.istore 4, 2) := by decide +kernel
theorem dX4_readNumber_38 : decode cX4_readNumber 38 = .ok (.iload 4, 2) := by decide +kernel
theorem dX4_readNumber_40 : decode cX4_readNumber 40 = .ok (.iconst 3, 1) := by decide +kernel
theorem dX4_readNumber_41 : decode cX4_readNumber 41 = .ok (.if_icmp .ge 72, 3) := by decide +kernel
theorem dX4_readNumber_44 : decode cX4_readNumber 44 = .ok (.aload_n 0, 1) := by decide +kernel
theorem dX4_readNumber_45 : decode cX4_readNumber 45 = .ok (.aload_n 0, 1) := by decide +kernel
theorem dX4_readNumber_46 : decode cX4_readNumber 46 = .ok (.getfield 29, 3) := by decide +kernel
theorem dX4_readNumber_49 : decode cX4_readNumber 49 = .ok (.invokevirtual 47, 3) := by decide +kernel
theorem dX4_readNumber_52 : decode cX4_readNumber 52 = .ok (.istore 5, 2) := by decide +kernel
theorem dX4_readNumber_54 : decode cX4_readNumber 54 = .ok (.iload 5, 2) := by decide +kernel
theorem dX4_readNumber_56 : decode cX4_readNumber 56 = .ok (.ifCond .lt 57, 3) := by decide +kernel
theorem dX4_readNumber_59 : decode cX4_readNumber 59 = .ok (.aload_n 0, 1) := by decide +kernel
theorem dX4_readNumber_60 : decode cX4_readNumber 60 = .ok (.getfield 32, 3) := by decide +kernel
theorem dX4_readNumber_63 : decode cX4_readNumber 63 = .ok (.ifCond .eq 50, 3) := by decide +kernel
theorem dX4_readNumber_66 : decode cX4_readNumber 66 = .ok (.bipush 10, 2) := by decide +kernel
theorem dX4_readNumber_68 : decode cX4_readNumber 68 = .ok (.aload_n 0, 1) := by decide +kernel
theorem dX4_readNumber_69 : decode cX4_readNumber 69 = .ok (.getfield 32, 3) := by decide +kernel
theorem dX4_readNumber_72 : decode cX4_readNumber 72 = .ok (.imul, 1) := by decide +kernel
theorem dX4_readNumber_73 : decode cX4_readNumber 73 = .ok (.iload 5, 2) := by decide +kernel
theorem dX4_readNumber_75 : decode cX4_readNumber 75 = .ok (.iadd, 1) := by decide +kernel
theorem dX4_readNumber_76 : decode cX4_readNumber 76 = .ok (.iload_n 2, 1) := by decide +kernel
theorem dX4_readNumber_77 : decode cX4_readNumber 77 = .ok (.if_icmp .le 6, 3) := by decide +kernel
theorem dX4_readNumber_80 : decode cX4_readNumber 80 = .ok (.goto 33, 3) := by decide +kernel
theorem dX4_readNumber_83 : decode cX4_readNumber 83 = .ok (.aload_n 0, 1) := by decide +kernel
theorem dX4_readNumber_84 : decode cX4_readNumber 84 = .ok (.bipush 10, 2) := by decide +kernel
theorem dX4_readNumber_86 : decode cX4_readNumber 86 = .ok (.aload_n 0, 1) := by decide +kernel
theorem dX4_readNumber_87 : decode cX4_readNumber 87 = .ok (.getfield 32, 3) := by decide +kernel
theorem dX4_readNumber_90 : decode cX4_readNumber 90 = .ok (.imul, 1) := by decide +kernel
theorem dX4_readNumber_91 : decode cX4_readNumber 91 = .ok (.iload 5, 2) := by decide +kernel
theorem dX4_readNumber_93 : decode cX4_readNumber 93 = .ok (.iadd, 1) := by decide +kernel
theorem dX4_readNumber_94 : decode cX4_readNumber 94 = .ok (.putfield 32, 3) := by decide +kernel
theorem dX4_readNumber_97 : decode cX4_readNumber 97 = .ok (.aload_n 0, 1) := by decide +kernel
theorem dX4_readNumber_98 : decode cX4_readNumber 98 = .ok (.dup, 1) := by decide +kernel
theorem dX4_readNumber_99 : decode cX4_readNumber 99 = .ok (.getfield 29, 3) := by decide +kernel
theorem dX4_readNumber_102 : decode cX4_readNumber 102 = .ok (.iconst 1, 1) := by decide +kernel
theorem dX4_readNumber_103 : decode cX4_readNumber 103 = .ok (.iadd, 1) := by decide +kernel
theorem dX4_readNumber_104 : decode cX4_readNumber 104 = .ok (.putfield 29, 3) := by decide +kernel
theorem dX4_readNumber_107 : decode cX4_readNumber 107 = .ok (.iinc 4 1, 3) := by decide +kernel
theorem dX4_readNumber_110 : decode cX4_readNumber 110 = .ok (.goto (-72), 3) := by decide +kernel
theorem dX4_readNumber_113 : decode cX4_readNumber 113 = .ok (.iconst 1, 1) := by decide +kernel
theorem dX4_readNumber_114 : decode cX4_readNumber 114 = .ok (.ireturn, 1) := by decide +kernel
theorem dX4_digitAt_0 : decode cX4_digitAt 0 = .ok (.aload_n 0, 1) := by decide +kernel
theorem dX4_digitAt_1 : decode cX4_digitAt 1 = .ok (.iload_n 1, 1) := by decide +kernel
theorem dX4_digitAt_2 : decode cX4_digitAt 2 = .ok (.invokevirtual 39, 3) := by decide +kernel
theorem dX4_digitAt_5 : decode cX4_digitAt 5 = .ok (.istore_n 2, 1) := by decide +kernel
theorem dX4_digitAt_6 : decode cX4_digitAt 6 = .ok (.iload_n 2, 1) := by decide +kernel
theorem dX4_digitAt_7 : decode cX4_digitAt 7 = .ok (.bipush 48, 2) := by decide +kernel
theorem dX4_digitAt_9 : decode cX4_digitAt 9 = .ok (.if_icmp .lt 16, 3) := by decide +kernel
theorem dX4_digitAt_12 : decode cX4_digitAt 12 = .ok (.iload_n 2, 1) := by decide +kernel
theorem dX4_digitAt_13 : decode cX4_digitAt 13 = .ok (.bipush 57, 2) := by decide +kernel
theorem dX4_digitAt_15 : decode cX4_digitAt 15 = .ok (.if_icmp .gt 10, 3) := by decide +kernel
theorem dX4_digitAt_18 : decode cX4_digitAt 18 = .ok (.iload_n 2, 1) := by decide +kernel
theorem dX4_digitAt_19 : decode cX4_digitAt 19 = .ok (.bipush 48, 2) := by decide +kernel
theorem dX4_digitAt_21 : decode cX4_digitAt 21 = .ok (.isub, 1) := by decide +kernel
theorem dX4_digitAt_22 : decode cX4_digitAt 22 = .ok (.goto 4, 3) := by decide +kernel
theorem dX4_digitAt_25 : decode cX4_digitAt 25 = .ok (.iconst (-1), 1) := by decide +kernel
theorem dX4_digitAt_26 : decode cX4_digitAt 26 = .ok (.ireturn, 1) := by decide +kernel
theorem dX4_characterAt_0 : decode cX4_characterAt 0 = .ok (.iload_n 1, 1) := by decide +kernel
theorem dX4_characterAt_1 : decode cX4_characterAt 1 = .ok (.ifCond .lt 21, 3) := by decide +kernel
theorem dX4_characterAt_4 : decode cX4_characterAt 4 = .ok (.iload_n 1, 1) := by decide +kernel
theorem dX4_characterAt_5 : decode cX4_characterAt 5 = .ok (.aload_n 0, 1) := by decide +kernel
theorem dX4_characterAt_6 : decode cX4_characterAt 6 = .ok (.getfield 15, 3) := by decide +kernel
theorem dX4_characterAt_9 : decode cX4_characterAt 9 = .ok (.if_icmp .ge 13, 3) := by decide +kernel
theorem dX4_characterAt_12 : decode cX4_characterAt 12 = .ok (.iload_n 1, 1) := by decide +kernel
theorem dX4_characterAt_13 : decode cX4_characterAt 13 = .ok (.bipush 60, 2) := by decide +kernel
theorem dX4_characterAt_15 : decode cX4_characterAt 15 = .ok (.if_icmp .ge 7, 3) := by decide +kernel
theorem dX4_characterAt_18 : decode cX4_characterAt 18 = .ok (.iconst 1, 1) := by decide +kernel
theorem dX4_characterAt_19 : decode cX4_characterAt 19 = .ok (.goto 4, 3) := by decide +kernel
theorem dX4_characterAt_22 : decode cX4_characterAt 22 = .ok (.iconst 0, 1) := by decide +kernel
theorem dX4_characterAt_23 : decode cX4_characterAt 23 = .ok (.istore_n 2, 1) := by decide +kernel
theorem dX4_characterAt_24 : decode cX4_characterAt 24 = .ok (.iload_n 2, 1) := by decide +kernel
theorem dX4_characterAt_25 : decode cX4_characterAt 25 = .ok (.ifCond .eq 12, 3) := by decide +kernel
theorem dX4_characterAt_28 : decode cX4_characterAt 28 = .ok (.aload_n 0, 1) := by decide +kernel
theorem dX4_characterAt_29 : decode cX4_characterAt 29 = .ok (.getfield 9, 3) := by decide +kernel
theorem dX4_characterAt_32 : decode cX4_characterAt 32 = .ok (.iload_n 1, 1) := by decide +kernel
theorem dX4_characterAt_33 : decode cX4_characterAt 33 = .ok (.caload, 1) := by decide +kernel
theorem dX4_characterAt_34 : decode cX4_characterAt 34 = .ok (.goto 4, 3) := by decide +kernel
theorem dX4_characterAt_37 : decode cX4_characterAt 37 = .ok (.iconst 0, 1) := by decide +kernel
theorem dX4_characterAt_38 : decode cX4_characterAt 38 = .ok (.ireturn, 1) := by decide +kernel
theorem dX5_init_0 : decode cX5_init 0 = .ok (.aload_n 0, 1) := by decide +kernel
theorem dX5_init_1 : decode cX5_init 1 = .ok (.invokespecial 3, 3) := by decide +kernel
theorem dX5_init_4 : decode cX5_init 4 = .ok (.aload_n 0, 1) := by decide +kernel
theorem dX5_init_5 : decode cX5_init 5 = .ok (.sipush 200, 3) := by decide +kernel
theorem dX5_init_8 : decode cX5_init 8 = .ok (.newarray .int, 2) := by decide +kernel
theorem dX5_init_10 : decode cX5_init 10 = .ok (.putfield 9, 3) := by decide +kernel
theorem dX5_init_13 : decode cX5_init 13 = .ok (.aload_n 0, 1) := by decide +kernel
theorem dX5_init_14 : decode cX5_init 14 = .ok (.iconst 0, 1) := by decide +kernel
theorem dX5_init_15 : decode cX5_init 15 = .ok (.putfield 15, 3) := by decide +kernel
theorem dX5_init_18 : decode cX5_init 18 = .ok (.return_, 1) := by decide +kernel
theorem dX5_copyFrom_0 : decode cX5_copyFrom 0 = .ok (.aload_n 1, 1) := by decide +kernel
theorem dX5_copyFrom_1 : decode cX5_copyFrom 1 = .ok (.ifnonnull 4, 3) := by decide +kernel
theorem dX5_copyFrom_4 : decode cX5_copyFrom 4 = .ok (.return_, 1) := by decide +kernel
theorem dX5_copyFrom_5 : decode cX5_copyFrom 5 = .ok (.aload_n 1, 1) := by decide +kernel
theorem dX5_copyFrom_6 : decode cX5_copyFrom 6 = .ok (.getfield 9, 3) := by decide +kernel
theorem dX5_copyFrom_9 : decode cX5_copyFrom 9 = .ok (.iconst 0, 1) := by decide +kernel
theorem dX5_copyFrom_10 : decode cX5_copyFrom 10 = .ok (.aload_n 0, 1) := by decide +kernel
theorem dX5_copyFrom_11 : decode cX5_copyFrom 11 = .ok (.getfield 9, 3) := by decide +kernel
theorem dX5_copyFrom_14 : decode cX5_copyFrom 14 = .ok (.iconst 0, 1) := by decide +kernel
theorem dX5_copyFrom_15 : decode cX5_copyFrom 15 = .ok (.sipush 200, 3) := by decide +kernel
theorem dX5_copyFrom_18 : decode cX5_copyFrom 18 = .ok (.invokestatic 19, 3) := by decide +kernel
theorem dX5_copyFrom_21 : decode cX5_copyFrom 21 = .ok (.aload_n 0, 1) := by decide +kernel
theorem dX5_copyFrom_22 : decode cX5_copyFrom 22 = .ok (.aload_n 1, 1) := by decide +kernel
theorem dX5_copyFrom_23 : decode cX5_copyFrom 23 = .ok (.getfield 15, 3) := by decide +kernel
theorem dX5_copyFrom_26 : decode cX5_copyFrom 26 = .ok (.putfield 15, 3) := by decide +kernel
theorem dX5_copyFrom_29 : decode cX5_copyFrom 29 = .ok (.return_, 1) := by decide +kernel
theorem dX5_names_0 : decode cX5_names 0 = .ok (.aload_n 0, 1) := by decide +kernel
theorem dX5_names_1 : decode cX5_names 1 = .ok (.getfield 15, 3) := by decide +kernel
theorem dX5_names_4 : decode cX5_names 4 = .ok (.ireturn, 1) := by decide +kernel
theorem dX5_nameAt_0 : decode cX5_nameAt 0 = .ok (.iload_n 1, 1) := by decide +kernel
theorem dX5_nameAt_1 : decode cX5_nameAt 1 = .ok (.ifCond .lt 27, 3) := by decide +kernel
theorem dX5_nameAt_4 : decode cX5_nameAt 4 = .ok (.iload_n 1, 1) := by decide +kernel
theorem dX5_nameAt_5 : decode cX5_nameAt 5 = .ok (.aload_n 0, 1) := by decide +kernel
theorem dX5_nameAt_6 : decode cX5_nameAt 6 = .ok (.getfield 15, 3) := by decide +kernel
theorem dX5_nameAt_9 : decode cX5_nameAt 9 = .ok (.if_icmp .ge 19, 3) := by decide +kernel
theorem dX5_nameAt_12 : decode cX5_nameAt 12 = .ok (.iload_n 1, 1) := by decide +kernel
theorem dX5_nameAt_13 : decode cX5_nameAt 13 = .ok (.sipush 200, 3) := by decide +kernel
theorem dX5_nameAt_16 : decode cX5_nameAt 16 = .ok (.if_icmp .ge 12, 3) := by decide +kernel
theorem dX5_nameAt_19 : decode cX5_nameAt 19 = .ok (.aload_n 0, 1) := by decide +kernel
theorem dX5_nameAt_20 : decode cX5_nameAt 20 = .ok (.getfield 9, 3) := by decide +kernel
theorem dX5_nameAt_23 : decode cX5_nameAt 23 = .ok (.iload_n 1, 1) := by decide +kernel
theorem dX5_nameAt_24 : decode cX5_nameAt 24 = .ok (.iaload, 1) := by decide +kernel
theorem dX5_nameAt_25 : decode cX5_nameAt 25 = .ok (.goto 5, 3) := by decide +kernel
theorem dX5_nameAt_28 : decode cX5_nameAt 28 = .ok (.bipush (-5), 2) := by decide +kernel
theorem dX5_nameAt_30 : decode cX5_nameAt 30 = .ok (.ireturn, 1) := by decide +kernel
theorem dX5_add_0 : decode cX5_add 0 = .ok (.aload_n 0, 1) := by decide +kernel
theorem dX5_add_1 : decode cX5_add 1 = .ok (.getfield 15, 3) := by decide +kernel
theorem dX5_add_4 : decode cX5_add 4 = .ok (.sipush 200, 3) := by decide +kernel
theorem dX5_add_7 : decode cX5_add 7 = .ok (.if_icmp .lt 26, 3) := by decide +kernel
theorem dX5_add_10 : decode cX5_add 10 = .ok (.aload_n 0, 1) := by decide +kernel
theorem dX5_add_11 : decode cX5_add 11 = .ok (.getfield 9, 3) := by decide +kernel
theorem dX5_add_14 : decode cX5_add 14 = .ok (.iconst 1, 1) := by decide +kernel
theorem dX5_add_15 : decode cX5_add 15 = .ok (.aload_n 0, 1) := by decide +kernel
theorem dX5_add_16 : decode cX5_add 16 = .ok (.getfield 9, 3) := by decide +kernel
theorem dX5_add_19 : decode cX5_add 19 = .ok (.iconst 0, 1) := by decide +kernel
theorem dX5_add_20 : decode cX5_add 20 = .ok (.sipush 199, 3) := by decide +kernel
theorem dX5_add_23 : decode cX5_add 23 = .ok (.invokestatic 19, 3) := by decide +kernel
theorem dX5_add_26 : decode cX5_add 26 = .ok (.aload_n 0, 1) := by decide +kernel
theorem dX5_add_27 : decode cX5_add 27 = .ok (.sipush 199, 3) := by decide +kernel
theorem dX5_add_30 : decode cX5_add 30 = .ok (.putfield 15, 3) := by decide +kernel
theorem dX5_add_33 : decode cX5_add 33 = .ok (.aload_n 0, 1) := by decide +kernel
theorem dX5_add_34 : decode cX5_add 34 = .ok (.getfield 15, 3) := by decide +kernel
theorem dX5_add_37 : decode cX5_add 37 = .ok (.ifCond .lt 23, 3) := by decide +kernel
theorem dX5_add_40 : decode cX5_add 40 = .ok (.aload_n 0, 1) := by decide +kernel
theorem dX5_add_41 : decode cX5_add 41 = .ok (.getfield 9, 3) := by decide +kernel
theorem dX5_add_44 : decode cX5_add 44 = .ok (.aload_n 0, 1) := by decide +kernel
theorem dX5_add_45 : decode cX5_add 45 = .ok (.getfield 15, 3) := by decide +kernel
theorem dX5_add_48 : decode cX5_add 48 = .ok (.iload_n 1, 1) := by decide +kernel
theorem dX5_add_49 : decode cX5_add 49 = .ok (.iastore, 1) := by decide +kernel
theorem dX5_add_50 : decode cX5_add 50 = .ok (.aload_n 0, 1) := by decide +kernel
theorem dX5_add_51 : decode cX5_add 51 = .ok (.dup, 1) := by decide +kernel
theorem dX5_add_52 : decode cX5_add 52 = .ok (.getfield 15, 3) := by decide +kernel
theorem dX5_add_55 : decode cX5_add 55 = .ok (.iconst 1, 1) := by decide +kernel
theorem dX5_add_56 : decode cX5_add 56 = .ok (.iadd, 1) := by decide +kernel
theorem dX5_add_57 : decode cX5_add 57 = .ok (.putfield 15, 3) := by decide +kernel
theorem dX5_add_60 : decode cX5_add 60 = .ok (.return_, 1) := by decide +kernel
theorem dX5_empty_0 : decode cX5_empty 0 = .ok (.aload_n 0, 1) := by decide +kernel
theorem dX5_empty_1 : decode cX5_empty 1 = .ok (.iconst 0, 1) := by decide +kernel
theorem dX5_empty_2 : decode cX5_empty 2 = .ok (.putfield 15, 3) := by decide +kernel
theorem dX5_empty_5 : decode cX5_empty 5 = .ok (.return_, 1) := by decide +kernel
theorem dX6_init_0 : decode cX6_init 0 = .ok (.aload_n 0, 1) := by decide +kernel
theorem dX6_init_1 : decode cX6_init 1 = .ok (.invokespecial 1, 3) := by decide +kernel
theorem dX6_init_4 : decode cX6_init 4 = .ok (.aload_n 0, 1) := by decide +kernel
theorem dX6_init_5 : decode cX6_init 5 = .ok (.new 7, 3) := by decide +kernel
theorem dX6_init_8 : decode cX6_init 8 = .ok (.dup, 1) := by decide +kernel
theorem dX6_init_9 : decode cX6_init 9 = .ok (.invokespecial 9, 3) := by decide +kernel
theorem dX6_init_12 : decode cX6_init 12 = .ok (.putfield 10, 3) := by decide +kernel
theorem dX6_init_15 : decode cX6_init 15 = .ok (.aload_n 0, 1) := by decide +kernel
theorem dX6_init_16 : decode cX6_init 16 = .ok (.new 7, 3) := by decide +kernel
theorem dX6_init_19 : decode cX6_init 19 = .ok (.dup, 1) := by decide +kernel
theorem dX6_init_20 : decode cX6_init 20 = .ok (.invokespecial 9, 3) := by decide +kernel
theorem dX6_init_23 : decode cX6_init 23 = .ok (.putfield 16, 3) := by decide +kernel
theorem dX6_init_26 : decode cX6_init 26 = .ok (.aload_n 0, 1) := by decide +kernel
theorem dX6_init_27 : decode cX6_init 27 = .ok (.new 7, 3) := by decide +kernel
theorem dX6_init_30 : decode cX6_init 30 = .ok (.dup, 1) := by decide +kernel
theorem dX6_init_31 : decode cX6_init 31 = .ok (.invokespecial 9, 3) := by decide +kernel
theorem dX6_init_34 : decode cX6_init 34 = .ok (.putfield 19, 3) := by decide +kernel
theorem dX6_init_37 : decode cX6_init 37 = .ok (.aload_n 0, 1) := by decide +kernel
theorem dX6_init_38 : decode cX6_init 38 = .ok (.new 7, 3) := by decide +kernel
theorem dX6_init_41 : decode cX6_init 41 = .ok (.dup, 1) := by decide +kernel
theorem dX6_init_42 : decode cX6_init 42 = .ok (.invokespecial 9, 3) := by decide +kernel
theorem dX6_init_45 : decode cX6_init 45 = .ok (.putfield 22, 3) := by decide +kernel
theorem dX6_init_48 : decode cX6_init 48 = .ok (.aload_n 0, 1) := by decide +kernel
theorem dX6_init_49 : decode cX6_init 49 = .ok (.iconst 0, 1) := by decide +kernel
theorem dX6_init_50 : decode cX6_init 50 = .ok (.putfield 25, 3) := by decide +kernel
theorem dX6_init_53 : decode cX6_init 53 = .ok (.aload_n 0, 1) := by decide +kernel
theorem dX6_init_54 : decode cX6_init 54 = .ok (.new 29, 3) := by decide +kernel
theorem dX6_init_57 : decode cX6_init 57 = .ok (.dup, 1) := by decide +kernel
theorem dX6_init_58 : decode cX6_init 58 = .ok (.invokespecial 31, 3) := by decide +kernel
theorem dX6_init_61 : decode cX6_init 61 = .ok (.putfield 32, 3) := by decide +kernel
theorem dX6_init_64 : decode cX6_init 64 = .ok (.aload_n 0, 1) := by decide +kernel
theorem dX6_init_65 : decode cX6_init 65 = .ok (.new 36, 3) := by decide +kernel
theorem dX6_init_68 : decode cX6_init 68 = .ok (.dup, 1) := by decide +kernel
theorem dX6_init_69 : decode cX6_init 69 = .ok (.invokespecial 38, 3) := by decide +kernel
theorem dX6_init_72 : decode cX6_init 72 = .ok (.putfield 39, 3) := by decide +kernel
theorem dX6_init_75 : decode cX6_init 75 = .ok (.return_, 1) := by decide +kernel
theorem dX6_put_0 : decode cX6_put 0 = .ok (.aload_n 0, 1) := by decide +kernel
theorem dX6_put_1 : decode cX6_put 1 = .ok (.getfield 16, 3) := by decide +kernel
theorem dX6_put_4 : decode cX6_put 4 = .ok (.aload_n 0, 1) := by decide +kernel
theorem dX6_put_5 : decode cX6_put 5 = .ok (.getfield 10, 3) := by decide +kernel
theorem dX6_put_8 : decode cX6_put 8 = .ok (.invokevirtual 43, 3) := by decide +kernel
theorem dX6_put_11 : decode cX6_put 11 = .ok (.aload_n 0, 1) := by decide +kernel
theorem dX6_put_12 : decode cX6_put 12 = .ok (.aload_n 0, 1) := by decide +kernel
theorem dX6_put_13 : decode cX6_put 13 = .ok (.getfield 10, 3) := by decide +kernel
theorem dX6_put_16 : decode cX6_put 16 = .ok (.iload_n 1, 1) := by decide +kernel
theorem dX6_put_17 : decode cX6_put 17 = .ok (.invokevirtual 47, 3) := by decide +kernel
theorem dX6_put_20 : decode cX6_put 20 = .ok (.invokevirtual 51, 3) := by decide +kernel
theorem dX6_put_23 : decode cX6_put 23 = .ok (.ireturn, 1) := by decide +kernel
theorem dX6_take_0 : decode cX6_take 0 = .ok (.aload_n 0, 1) := by decide +kernel
theorem dX6_take_1 : decode cX6_take 1 = .ok (.getfield 16, 3) := by decide +kernel
theorem dX6_take_4 : decode cX6_take 4 = .ok (.aload_n 0, 1) := by decide +kernel
theorem dX6_take_5 : decode cX6_take 5 = .ok (.getfield 10, 3) := by decide +kernel
theorem dX6_take_8 : decode cX6_take 8 = .ok (.invokevirtual 43, 3) := by decide +kernel
theorem dX6_take_11 : decode cX6_take 11 = .ok (.aload_n 0, 1) := by decide +kernel
theorem dX6_take_12 : decode cX6_take 12 = .ok (.aload_n 0, 1) := by decide +kernel
theorem dX6_take_13 : decode cX6_take 13 = .ok (.getfield 10, 3) := by decide +kernel
theorem dX6_take_16 : decode cX6_take 16 = .ok (.iload_n 1, 1) := by decide +kernel
theorem dX6_take_17 : decode cX6_take 17 = .ok (.invokevirtual 54, 3) := by decide +kernel
theorem dX6_take_20 : decode cX6_take 20 = .ok (.invokevirtual 51, 3) := by decide +kernel
theorem dX6_take_23 : decode cX6_take 23 = .ok (.ireturn, 1) := by decide +kernel
theorem dX6_sleep_0 : decode cX6_sleep 0 = .ok (.aload_n 0, 1) := by decide +kernel
theorem dX6_sleep_1 : decode cX6_sleep 1 = .ok (.getfield 16, 3) := by decide +kernel
theorem dX6_sleep_4 : decode cX6_sleep 4 = .ok (.aload_n 0, 1) := by decide +kernel
theorem dX6_sleep_5 : decode cX6_sleep 5 = .ok (.getfield 10, 3) := by decide +kernel
theorem dX6_sleep_8 : decode cX6_sleep 8 = .ok (.invokevirtual 43, 3) := by decide +kernel
theorem dX6_sleep_11 : decode cX6_sleep 11 = .ok (.aload_n 0, 1) := by decide +kernel
theorem dX6_sleep_12 : decode cX6_sleep 12 = .ok (.aload_n 0, 1) := by decide +kernel
theorem dX6_sleep_13 : decode cX6_sleep 13 = .ok (.getfield 10, 3) := by decide +kernel
theorem dX6_sleep_16 : decode cX6_sleep 16 = .ok (.iload_n 1, 1) := by decide +kernel
theorem dX6_sleep_17 : decode cX6_sleep 17 = .ok (.invokevirtual 57, 3) := by decide +kernel
theorem dX6_sleep_20 : decode cX6_sleep 20 = .ok (.invokevirtual 51, 3) := by decide +kernel
theorem dX6_sleep_23 : decode cX6_sleep 23 = .ok (.ireturn, 1) := by decide +kernel
theorem dX6_wakeAll_0 : decode cX6_wakeAll 0 = .ok (.aload_n 0, 1) := by decide +kernel
theorem dX6_wakeAll_1 : decode cX6_wakeAll 1 = .ok (.getfield 16, 3) := by decide +kernel
theorem dX6_wakeAll_4 : decode cX6_wakeAll 4 = .ok (.aload_n 0, 1) := by decide +kernel
theorem dX6_wakeAll_5 : decode cX6_wakeAll 5 = .ok (.getfield 10, 3) := by decide +kernel
theorem dX6_wakeAll_8 : decode cX6_wakeAll 8 = .ok (.invokevirtual 43, 3) := by decide +kernel
theorem dX6_wakeAll_11 : decode cX6_wakeAll 11 = .ok (.aload_n 0, 1) := by decide +kernel
theorem dX6_wakeAll_12 : decode cX6_wakeAll 12 = .ok (.aload_n 0, 1) := by decide +kernel
theorem dX6_wakeAll_13 : decode cX6_wakeAll 13 = .ok (.getfield 10, 3) := by decide +kernel
theorem dX6_wakeAll_16 : decode cX6_wakeAll 16 = .ok (.invokevirtual 60, 3) := by decide +kernel
theorem dX6_wakeAll_19 : decode cX6_wakeAll 19 = .ok (.invokevirtual 51, 3) := by decide +kernel
theorem dX6_wakeAll_22 : decode cX6_wakeAll 22 = .ok (.ireturn, 1) := by decide +kernel
theorem dX6_leave_0 : decode cX6_leave 0 = .ok (.aload_n 0, 1) := by decide +kernel
theorem dX6_leave_1 : decode cX6_leave 1 = .ok (.getfield 16, 3) := by decide +kernel
theorem dX6_leave_4 : decode cX6_leave 4 = .ok (.aload_n 0, 1) := by decide +kernel
theorem dX6_leave_5 : decode cX6_leave 5 = .ok (.getfield 10, 3) := by decide +kernel
theorem dX6_leave_8 : decode cX6_leave 8 = .ok (.invokevirtual 43, 3) := by decide +kernel
theorem dX6_leave_11 : decode cX6_leave 11 = .ok (.aload_n 0, 1) := by decide +kernel
theorem dX6_leave_12 : decode cX6_leave 12 = .ok (.aload_n 0, 1) := by decide +kernel
theorem dX6_leave_13 : decode cX6_leave 13 = .ok (.getfield 10, 3) := by decide +kernel
theorem dX6_leave_16 : decode cX6_leave 16 = .ok (.iload_n 1, 1) := by decide +kernel
theorem dX6_leave_17 : decode cX6_leave 17 = .ok (.iload_n 2, 1) := by decide +kernel
theorem dX6_leave_18 : decode cX6_leave 18 = .ok (.invokevirtual 64, 3) := by decide +kernel
theorem dX6_leave_21 : decode cX6_leave 21 = .ok (.invokevirtual 51, 3) := by decide +kernel
theorem dX6_leave_24 : decode cX6_leave 24 = .ok (.ireturn, 1) := by decide +kernel
theorem dX6_set_0 : decode cX6_set 0 = .ok (.aload_n 0, 1) := by decide +kernel
theorem dX6_set_1 : decode cX6_set 1 = .ok (.getfield 16, 3) := by decide +kernel
theorem dX6_set_4 : decode cX6_set 4 = .ok (.aload_n 0, 1) := by decide +kernel
theorem dX6_set_5 : decode cX6_set 5 = .ok (.getfield 10, 3) := by decide +kernel
theorem dX6_set_8 : decode cX6_set 8 = .ok (.invokevirtual 43, 3) := by decide +kernel
theorem dX6_set_11 : decode cX6_set 11 = .ok (.aload_n 0, 1) := by decide +kernel
theorem dX6_set_12 : decode cX6_set 12 = .ok (.aload_n 0, 1) := by decide +kernel
theorem dX6_set_13 : decode cX6_set 13 = .ok (.getfield 10, 3) := by decide +kernel
theorem dX6_set_16 : decode cX6_set 16 = .ok (.iload_n 1, 1) := by decide +kernel
theorem dX6_set_17 : decode cX6_set 17 = .ok (.iload_n 2, 1) := by decide +kernel
theorem dX6_set_18 : decode cX6_set 18 = .ok (.invokevirtual 68, 3) := by decide +kernel
theorem dX6_set_21 : decode cX6_set 21 = .ok (.invokevirtual 51, 3) := by decide +kernel
theorem dX6_set_24 : decode cX6_set 24 = .ok (.ireturn, 1) := by decide +kernel
theorem dX6_shuffle_0 : decode cX6_shuffle 0 = .ok (.aload_n 0, 1) := by decide +kernel
theorem dX6_shuffle_1 : decode cX6_shuffle 1 = .ok (.getfield 16, 3) := by decide +kernel
theorem dX6_shuffle_4 : decode cX6_shuffle 4 = .ok (.aload_n 0, 1) := by decide +kernel
theorem dX6_shuffle_5 : decode cX6_shuffle 5 = .ok (.getfield 10, 3) := by decide +kernel
theorem dX6_shuffle_8 : decode cX6_shuffle 8 = .ok (.invokevirtual 43, 3) := by decide +kernel
theorem dX6_shuffle_11 : decode cX6_shuffle 11 = .ok (.aload_n 0, 1) := by decide +kernel
theorem dX6_shuffle_12 : decode cX6_shuffle 12 = .ok (.aload_n 0, 1) := by decide +kernel
theorem dX6_shuffle_13 : decode cX6_shuffle 13 = .ok (.getfield 10, 3) := by decide +kernel
theorem dX6_shuffle_16 : decode cX6_shuffle 16 = .ok (.iload_n 1, 1) := by decide +kernel
theorem dX6_shuffle_17 : decode cX6_shuffle 17 = .ok (.invokevirtual 71, 3) := by decide +kernel
theorem dX6_shuffle_20 : decode cX6_shuffle 20 = .ok (.invokevirtual 51, 3) := by decide +kernel
theorem dX6_shuffle_23 : decode cX6_shuffle 23 = .ok (.ireturn, 1) := by decide +kernel
theorem dX6_forget_0 : decode cX6_forget 0 = .ok (.aload_n 0, 1) := by decide +kernel
theorem dX6_forget_1 : decode cX6_forget 1 = .ok (.getfield 16, 3) := by decide +kernel
theorem dX6_forget_4 : decode cX6_forget 4 = .ok (.aload_n 0, 1) := by decide +kernel
theorem dX6_forget_5 : decode cX6_forget 5 = .ok (.getfield 10, 3) := by decide +kernel
theorem dX6_forget_8 : decode cX6_forget 8 = .ok (.invokevirtual 43, 3) := by decide +kernel
theorem dX6_forget_11 : decode cX6_forget 11 = .ok (.aload_n 0, 1) := by decide +kernel
theorem dX6_forget_12 : decode cX6_forget 12 = .ok (.aload_n 0, 1) := by decide +kernel
theorem dX6_forget_13 : decode cX6_forget 13 = .ok (.getfield 10, 3) := by decide +kernel
theorem dX6_forget_16 : decode cX6_forget 16 = .ok (.invokevirtual 74, 3) := by decide +kernel
theorem dX6_forget_19 : decode cX6_forget 19 = .ok (.invokevirtual 51, 3) := by decide +kernel
theorem dX6_forget_22 : decode cX6_forget 22 = .ok (.ireturn, 1) := by decide +kernel
theorem dX6_ask_0 : decode cX6_ask 0 = .ok (.iload_n 1, 1) := by decide +kernel
theorem dX6_ask_1 : decode cX6_ask 1 = .ok (.iload_n 2, 1) := by decide +kernel
theorem dX6_ask_2 : decode cX6_ask 2 = .ok (.invokestatic 77, 3) := by decide +kernel
theorem dX6_ask_5 : decode cX6_ask 5 = .ok (.ifCond .ne 6, 3) := by decide +kernel
theorem dX6_ask_8 : decode cX6_ask 8 = .ok (.bipush (-2), 2) := by decide +kernel
theorem dX6_ask_10 : decode cX6_ask 10 = .ok (.ireturn, 1) := by decide +kernel
theorem dX6_ask_11 : decode cX6_ask 11 = .ok (.aload_n 0, 1) := by decide +kernel
theorem dX6_ask_12 : decode cX6_ask 12 = .ok (.getfield 16, 3) := by decide +kernel
theorem dX6_ask_15 : decode cX6_ask 15 = .ok (.aload_n 0, 1) := by decide +kernel
theorem dX6_ask_16 : decode cX6_ask 16 = .ok (.getfield 10, 3) := by decide +kernel
theorem dX6_ask_19 : decode cX6_ask 19 = .ok (.invokevirtual 43, 3) := by decide +kernel
theorem dX6_ask_22 : decode cX6_ask 22 = .ok (.aload_n 0, 1) := by decide +kernel
theorem dX6_ask_23 : decode cX6_ask 23 = .ok (.aload_n 0, 1) := by decide +kernel
theorem dX6_ask_24 : decode cX6_ask 24 = .ok (.getfield 10, 3) := by decide +kernel
theorem dX6_ask_27 : decode cX6_ask 27 = .ok (.iload_n 1, 1) := by decide +kernel
theorem dX6_ask_28 : decode cX6_ask 28 = .ok (.iload_n 2, 1) := by decide +kernel
theorem dX6_ask_29 : decode cX6_ask 29 = .ok (.invokevirtual 81, 3) := by decide +kernel
theorem dX6_ask_32 : decode cX6_ask 32 = .ok (.invokevirtual 51, 3) := by decide +kernel
theorem dX6_ask_35 : decode cX6_ask 35 = .ok (.ireturn, 1) := by decide +kernel
theorem dX6_walk_0 : decode cX6_walk 0 = .ok (.aload_n 0, 1) := by decide +kernel
theorem dX6_walk_1 : decode cX6_walk 1 = .ok (.getfield 16, 3) := by decide +kernel
theorem dX6_walk_4 : decode cX6_walk 4 = .ok (.aload_n 0, 1) := by decide +kernel
theorem dX6_walk_5 : decode cX6_walk 5 = .ok (.getfield 10, 3) := by decide +kernel
theorem dX6_walk_8 : decode cX6_walk 8 = .ok (.invokevirtual 43, 3) := by decide +kernel
theorem dX6_walk_11 : decode cX6_walk 11 = .ok (.aload_n 0, 1) := by decide +kernel
theorem dX6_walk_12 : decode cX6_walk 12 = .ok (.aload_n 0, 1) := by decide +kernel
theorem dX6_walk_13 : decode cX6_walk 13 = .ok (.getfield 10, 3) := by decide +kernel
theorem dX6_walk_16 : decode cX6_walk 16 = .ok (.iload_n 1, 1) := by decide +kernel
theorem dX6_walk_17 : decode cX6_walk 17 = .ok (.invokevirtual 84, 3) := by decide +kernel
theorem dX6_walk_20 : decode cX6_walk 20 = .ok (.invokevirtual 51, 3) := by decide +kernel
theorem dX6_walk_23 : decode cX6_walk 23 = .ok (.ireturn, 1) := by decide +kernel
theorem dX6_frame_0 : decode cX6_frame 0 = .ok (.aload_n 0, 1) := by decide +kernel
theorem dX6_frame_1 : decode cX6_frame 1 = .ok (.getfield 16, 3) := by decide +kernel
theorem dX6_frame_4 : decode cX6_frame 4 = .ok (.aload_n 0, 1) := by decide +kernel
theorem dX6_frame_5 : decode cX6_frame 5 = .ok (.getfield 10, 3) := by decide +kernel
theorem dX6_frame_8 : decode cX6_frame 8 = .ok (.invokevirtual 43, 3) := by decide +kernel
theorem dX6_frame_11 : decode cX6_frame 11 = .ok (.aload_n 0, 1) := by decide +kernel
theorem dX6_frame_12 : decode cX6_frame 12 = .ok (.aload_n 0, 1) := by decide +kernel
theorem dX6_frame_13 : decode cX6_frame 13 = .ok (.getfield 10, 3) := by decide +kernel
theorem dX6_frame_16 : decode cX6_frame 16 = .ok (.iload_n 1, 1) := by decide +kernel
theorem dX6_frame_17 : decode cX6_frame 17 = .ok (.invokevirtual 88, 3) := by decide +kernel
theorem dX6_frame_20 : decode cX6_frame 20 = .ok (.invokevirtual 51, 3) := by decide +kernel
theorem dX6_frame_23 : decode cX6_frame 23 = .ok (.ireturn, 1) := by decide +kernel
theorem dX6_rounds_0 : decode cX6_rounds 0 = .ok (.aload_n 0, 1) := by decide +kernel
theorem dX6_rounds_1 : decode cX6_rounds 1 = .ok (.getfield 16, 3) := by decide +kernel
theorem dX6_rounds_4 : decode cX6_rounds 4 = .ok (.aload_n 0, 1) := by decide +kernel
theorem dX6_rounds_5 : decode cX6_rounds 5 = .ok (.getfield 10, 3) := by decide +kernel
theorem dX6_rounds_8 : decode cX6_rounds 8 = .ok (.invokevirtual 43, 3) := by decide +kernel
theorem dX6_rounds_11 : decode cX6_rounds 11 = .ok (.aload_n 0, 1) := by decide +kernel
theorem dX6_rounds_12 : decode cX6_rounds 12 = .ok (.aload_n 0, 1) := by decide +kernel
theorem dX6_rounds_13 : decode cX6_rounds 13 = .ok (.getfield 10, 3) := by decide +kernel
theorem dX6_rounds_16 : decode cX6_rounds 16 = .ok (.iload_n 1, 1) := by decide +kernel
theorem dX6_rounds_17 : decode cX6_rounds 17 = .ok (.invokevirtual 91, 3) := by decide +kernel
theorem dX6_rounds_20 : decode cX6_rounds 20 = .ok (.invokevirtual 51, 3) := by decide +kernel
theorem dX6_rounds_23 : decode cX6_rounds 23 = .ok (.ireturn, 1) := by decide +kernel
theorem dX6_clearText_0 : decode cX6_clearText 0 = .ok (.aload_n 0, 1) := by decide +kernel
theorem dX6_clearText_1 : decode cX6_clearText 1 = .ok (.getfield 39, 3) := by decide +kernel
theorem dX6_clearText_4 : decode cX6_clearText 4 = .ok (.invokevirtual 98, 3) := by decide +kernel
theorem dX6_clearText_7 : decode cX6_clearText 7 = .ok (.ireturn, 1) := by decide +kernel
theorem dX6_perform_0 : decode cX6_perform 0 = .ok (.aload_n 0, 1) := by decide +kernel
theorem dX6_perform_1 : decode cX6_perform 1 = .ok (.getfield 39, 3) := by decide +kernel
theorem dX6_perform_4 : decode cX6_perform 4 = .ok (.invokevirtual 101, 3) := by decide +kernel
theorem dX6_perform_7 : decode cX6_perform 7 = .ok (.istore_n 1, 1) := by decide +kernel
theorem dX6_perform_8 : decode cX6_perform 8 = .ok (.iload_n 1, 1) := by decide +kernel
theorem dX6_perform_9 : decode cX6_perform 9 = .ok (.iconst (-1), 1) := by decide +kernel
theorem dX6_perform_10 : decode cX6_perform 10 = .ok (.if_icmp .eq 8, 3) := by decide +kernel
theorem dX6_perform_13 : decode cX6_perform 13 = .ok (.bipush (-100), 2) := by decide +kernel
theorem dX6_perform_15 : decode cX6_perform 15 = .ok (.iload_n 1, 1) := by decide +kernel
theorem dX6_perform_16 : decode cX6_perform 16 = .ok (.isub, 1) := by decide +kernel
theorem dX6_perform_17 : decode cX6_perform 17 = .ok (.ireturn, 1) := by decide +kernel
theorem dX6_perform_18 : decode cX6_perform 18 = .ok (.aload_n 0, 1) := by decide +kernel
theorem dX6_perform_19 : decode cX6_perform 19 = .ok (.getfield 16, 3) := by decide +kernel
theorem dX6_perform_22 : decode cX6_perform 22 = .ok (.aload_n 0, 1) := by decide +kernel
theorem dX6_perform_23 : decode cX6_perform 23 = .ok (.getfield 10, 3) := by decide +kernel
theorem dX6_perform_26 : decode cX6_perform 26 = .ok (.invokevirtual 43, 3) := by decide +kernel
theorem dX6_perform_29 : decode cX6_perform 29 = .ok (.aload_n 0, 1) := by decide +kernel
theorem dX6_perform_30 : decode cX6_perform 30 = .ok (.getfield 39, 3) := by decide +kernel
theorem dX6_perform_33 : decode cX6_perform 33 = .ok (.invokevirtual 104, 3) := by decide +kernel
theorem dX6_perform_36 : decode cX6_perform 36 = .ok (.istore_n 2, 1) := by decide +kernel
theorem dX6_perform_37 : decode cX6_perform 37 = .ok (.iconst 0, 1) := by decide +kernel
theorem dX6_perform_38 : decode cX6_perform 38 = .ok (.istore_n 3, 1) := by decide +kernel
theorem dX6_perform_39 : decode cX6_perform 39 = .ok (.iload_n 3, 1) := by decide +kernel
theorem dX6_perform_40 : decode cX6_perform 40 = .ok (.iload_n 2, 1) := by decide +kernel
theorem dX6_perform_41 : decode cX6_perform 41 = .ok (.if_icmp .ge 60, 3) := by decide +kernel
theorem dX6_perform_44 : decode cX6_perform 44 = .ok (.aload_n 0, 1) := by decide +kernel
theorem dX6_perform_45 : decode cX6_perform 45 = .ok (.getfield 10, 3) := by decide +kernel
theorem dX6_perform_48 : decode cX6_perform 48 = .ok (.aload_n 0, 1) := by decide +kernel
theorem dX6_perform_49 : decode cX6_perform 49 = .ok (.getfield 39, 3) := by decide +kernel
theorem dX6_perform_52 : decode cX6_perform 52 = .ok (.iload_n 3, 1) := by decide +kernel
theorem dX6_perform_53 : decode cX6_perform 53 = .ok (.invokevirtual 107, 3) := by decide +kernel
theorem dX6_perform_56 : decode cX6_perform 56 = .ok (.aload_n 0, 1) := by decide +kernel
theorem dX6_perform_57 : decode cX6_perform 57 = .ok (.getfield 39, 3) := by decide +kernel
theorem dX6_perform_60 : decode cX6_perform 60 = .ok (.iload_n 3, 1) := by decide +kernel
theorem dX6_perform_61 : decode cX6_perform 61 = .ok (.invokevirtual 111, 3) := by decide +kernel
theorem dX6_perform_64 : decode cX6_perform 64 = .ok (.invokevirtual 114, 3) := by decide +kernel
theorem dX6_perform_67 : decode cX6_perform 67 = .ok (.istore 4, 2) := by decide +kernel
theorem dX6_perform_69 : decode cX6_perform 69 = .ok (.iload 4, 2) := by decide +kernel
theorem dX6_perform_71 : decode cX6_perform 71 = .ok (.ifCond .ge 24, 3) := by decide +kernel
theorem dX6_perform_74 : decode cX6_perform 74 = .ok (.iload 4, 2) := by decide +kernel
theorem dX6_perform_76 : decode cX6_perform 76 = .ok (.bipush (-5), 2) := by decide +kernel
theorem dX6_perform_78 : decode cX6_perform 78 = .ok (.if_icmp .eq 17, 3) := by decide +kernel
theorem dX6_perform_81 : decode cX6_perform 81 = .ok (.aload_n 0, 1) := by decide +kernel
theorem dX6_perform_82 : decode cX6_perform 82 = .ok (.getfield 10, 3) := by decide +kernel
theorem dX6_perform_85 : decode cX6_perform 85 = .ok (.aload_n 0, 1) := by decide +kernel
theorem dX6_perform_86 : decode cX6_perform 86 = .ok (.getfield 16, 3) := by decide +kernel
theorem dX6_perform_89 : decode cX6_perform 89 = .ok (.invokevirtual 43, 3) := by decide +kernel
theorem dX6_perform_92 : decode cX6_perform 92 = .ok (.iload 4, 2) := by decide +kernel
theorem dX6_perform_94 : decode cX6_perform 94 = .ok (.ireturn, 1) := by decide +kernel
theorem dX6_perform_95 : decode cX6_perform 95 = .ok (.iinc 3 1, 3) := by decide +kernel
theorem dX6_perform_98 : decode cX6_perform 98 = .ok (.goto (-59), 3) := by decide +kernel
theorem dX6_perform_101 : decode cX6_perform 101 = .ok (.aload_n 0, 1) := by decide +kernel
theorem dX6_perform_102 : decode cX6_perform 102 = .ok (.iload_n 2, 1) := by decide +kernel
theorem dX6_perform_103 : decode cX6_perform 103 = .ok (.invokevirtual 51, 3) := by decide +kernel
theorem dX6_perform_106 : decode cX6_perform 106 = .ok (.ireturn, 1) := by decide +kernel
theorem dX6_undo_0 : decode cX6_undo 0 = .ok (.aload_n 0, 1) := by decide +kernel
theorem dX6_undo_1 : decode cX6_undo 1 = .ok (.getfield 32, 3) := by decide +kernel
theorem dX6_undo_4 : decode cX6_undo 4 = .ok (.aload_n 0, 1) := by decide +kernel
theorem dX6_undo_5 : decode cX6_undo 5 = .ok (.getfield 10, 3) := by decide +kernel
theorem dX6_undo_8 : decode cX6_undo 8 = .ok (.invokevirtual 118, 3) := by decide +kernel
theorem dX6_undo_11 : decode cX6_undo 11 = .ok (.ireturn, 1) := by decide +kernel
theorem dX6_keep_0 : decode cX6_keep 0 = .ok (.aload_n 0, 1) := by decide +kernel
theorem dX6_keep_1 : decode cX6_keep 1 = .ok (.getfield 22, 3) := by decide +kernel
theorem dX6_keep_4 : decode cX6_keep 4 = .ok (.aload_n 0, 1) := by decide +kernel
theorem dX6_keep_5 : decode cX6_keep 5 = .ok (.getfield 10, 3) := by decide +kernel
theorem dX6_keep_8 : decode cX6_keep 8 = .ok (.invokevirtual 43, 3) := by decide +kernel
theorem dX6_keep_11 : decode cX6_keep 11 = .ok (.aload_n 0, 1) := by decide +kernel
theorem dX6_keep_12 : decode cX6_keep 12 = .ok (.iconst 1, 1) := by decide +kernel
theorem dX6_keep_13 : decode cX6_keep 13 = .ok (.putfield 25, 3) := by decide +kernel
theorem dX6_keep_16 : decode cX6_keep 16 = .ok (.aload_n 0, 1) := by decide +kernel
theorem dX6_keep_17 : decode cX6_keep 17 = .ok (.getfield 10, 3) := by decide +kernel
theorem dX6_keep_20 : decode cX6_keep 20 = .ok (.getfield 122, 3) := by decide +kernel
theorem dX6_keep_23 : decode cX6_keep 23 = .ok (.invokevirtual 126, 3) := by decide +kernel
theorem dX6_keep_26 : decode cX6_keep 26 = .ok (.ireturn, 1) := by decide +kernel
theorem dX6_restore_0 : decode cX6_restore 0 = .ok (.aload_n 0, 1) := by decide +kernel
theorem dX6_restore_1 : decode cX6_restore 1 = .ok (.getfield 25, 3) := by decide +kernel
theorem dX6_restore_4 : decode cX6_restore 4 = .ok (.ifCond .ne 6, 3) := by decide +kernel
theorem dX6_restore_7 : decode cX6_restore 7 = .ok (.bipush (-5), 2) := by decide +kernel
theorem dX6_restore_9 : decode cX6_restore 9 = .ok (.ireturn, 1) := by decide +kernel
theorem dX6_restore_10 : decode cX6_restore 10 = .ok (.aload_n 0, 1) := by decide +kernel
theorem dX6_restore_11 : decode cX6_restore 11 = .ok (.getfield 16, 3) := by decide +kernel
theorem dX6_restore_14 : decode cX6_restore 14 = .ok (.aload_n 0, 1) := by decide +kernel
theorem dX6_restore_15 : decode cX6_restore 15 = .ok (.getfield 10, 3) := by decide +kernel
theorem dX6_restore_18 : decode cX6_restore 18 = .ok (.invokevirtual 43, 3) := by decide +kernel
theorem dX6_restore_21 : decode cX6_restore 21 = .ok (.aload_n 0, 1) := by decide +kernel
theorem dX6_restore_22 : decode cX6_restore 22 = .ok (.getfield 10, 3) := by decide +kernel
theorem dX6_restore_25 : decode cX6_restore 25 = .ok (.aload_n 0, 1) := by decide +kernel
theorem dX6_restore_26 : decode cX6_restore 26 = .ok (.getfield 22, 3) := by decide +kernel
theorem dX6_restore_29 : decode cX6_restore 29 = .ok (.invokevirtual 43, 3) := by decide +kernel
theorem dX6_restore_32 : decode cX6_restore 32 = .ok (.aload_n 0, 1) := by decide +kernel
theorem dX6_restore_33 : decode cX6_restore 33 = .ok (.aload_n 0, 1) := by decide +kernel
theorem dX6_restore_34 : decode cX6_restore 34 = .ok (.getfield 10, 3) := by decide +kernel
theorem dX6_restore_37 : decode cX6_restore 37 = .ok (.getfield 122, 3) := by decide +kernel
theorem dX6_restore_40 : decode cX6_restore 40 = .ok (.invokevirtual 126, 3) := by decide +kernel
theorem dX6_restore_43 : decode cX6_restore 43 = .ok (.invokevirtual 51, 3) := by decide +kernel
theorem dX6_restore_46 : decode cX6_restore 46 = .ok (.ireturn, 1) := by decide +kernel
theorem dX6_card_0 : decode cX6_card 0 = .ok (.iload_n 1, 1) := by decide +kernel
theorem dX6_card_1 : decode cX6_card 1 = .ok (.ifCond .ge 6, 3) := by decide +kernel
theorem dX6_card_4 : decode cX6_card 4 = .ok (.bipush (-2), 2) := by decide +kernel
theorem dX6_card_6 : decode cX6_card 6 = .ok (.ireturn, 1) := by decide +kernel
theorem dX6_card_7 : decode cX6_card 7 = .ok (.iload_n 1, 1) := by decide +kernel
theorem dX6_card_8 : decode cX6_card 8 = .ok (.aload_n 0, 1) := by decide +kernel
theorem dX6_card_9 : decode cX6_card 9 = .ok (.getfield 10, 3) := by decide +kernel
theorem dX6_card_12 : decode cX6_card 12 = .ok (.getfield 122, 3) := by decide +kernel
theorem dX6_card_15 : decode cX6_card 15 = .ok (.invokevirtual 126, 3) := by decide +kernel
theorem dX6_card_18 : decode cX6_card 18 = .ok (.if_icmp .ge 17, 3) := by decide +kernel
theorem dX6_card_21 : decode cX6_card 21 = .ok (.aload_n 0, 1) := by decide +kernel
theorem dX6_card_22 : decode cX6_card 22 = .ok (.getfield 10, 3) := by decide +kernel
theorem dX6_card_25 : decode cX6_card 25 = .ok (.getfield 122, 3) := by decide +kernel
theorem dX6_card_28 : decode cX6_card 28 = .ok (.iload_n 1, 1) := by decide +kernel
theorem dX6_card_29 : decode cX6_card 29 = .ok (.invokevirtual 131, 3) := by decide +kernel
theorem dX6_card_32 : decode cX6_card 32 = .ok (.goto 5, 3) := by decide +kernel
theorem dX6_card_35 : decode cX6_card 35 = .ok (.bipush (-5), 2) := by decide +kernel
theorem dX6_card_37 : decode cX6_card 37 = .ok (.ireturn, 1) := by decide +kernel
theorem dX6_ofCard_0 : decode cX6_ofCard 0 = .ok (.aload_n 0, 1) := by decide +kernel
theorem dX6_ofCard_1 : decode cX6_ofCard 1 = .ok (.getfield 10, 3) := by decide +kernel
theorem dX6_ofCard_4 : decode cX6_ofCard 4 = .ok (.getfield 122, 3) := by decide +kernel
theorem dX6_ofCard_7 : decode cX6_ofCard 7 = .ok (.astore_n 3, 1) := by decide +kernel
theorem dX6_ofCard_8 : decode cX6_ofCard 8 = .ok (.aload_n 3, 1) := by decide +kernel
theorem dX6_ofCard_9 : decode cX6_ofCard 9 = .ok (.iload_n 1, 1) := by decide +kernel
theorem dX6_ofCard_10 : decode cX6_ofCard 10 = .ok (.invokevirtual 134, 3) := by decide +kernel
theorem dX6_ofCard_13 : decode cX6_ofCard 13 = .ok (.istore 4, 2) := by decide +kernel
theorem dX6_ofCard_15 : decode cX6_ofCard 15 = .ok (.iload 4, 2) := by decide +kernel
theorem dX6_ofCard_17 : decode cX6_ofCard 17 = .ok (.iconst (-1), 1) := by decide +kernel
theorem dX6_ofCard_18 : decode cX6_ofCard 18 = .ok (.if_icmp .ne 5, 3) := by decide +kernel
theorem dX6_ofCard_21 : decode cX6_ofCard 21 = .ok (.iconst (-1), 1) := by decide +kernel
theorem dX6_ofCard_22 : decode cX6_ofCard 22 = .ok (.ireturn, 1) := by decide +kernel
theorem dX6_ofCard_23 : decode cX6_ofCard 23 = .ok (.iload_n 2, 1) := by decide +kernel
theorem dX6_ofCard_24 : decode cX6_ofCard 24 = .ok (.tableswitch 68 0 3 #[32, 47, 54, 61], 32) := by decide +kernel
theorem dX6_ofCard_56 : decode cX6_ofCard 56 = .ok (.aload_n 3, 1) := by decide +kernel
theorem dX6_ofCard_57 : decode cX6_ofCard 57 = .ok (.iload 4, 2) := by decide +kernel
theorem dX6_ofCard_59 : decode cX6_ofCard 59 = .ok (.invokevirtual 137, 3) := by decide +kernel
theorem dX6_ofCard_62 : decode cX6_ofCard 62 = .ok (.ifCond .eq 7, 3) := by decide +kernel
theorem dX6_ofCard_65 : decode cX6_ofCard 65 = .ok (.iconst 1, 1) := by decide +kernel
theorem dX6_ofCard_66 : decode cX6_ofCard 66 = .ok (.goto 4, 3) := by decide +kernel
theorem dX6_ofCard_69 : decode cX6_ofCard 69 = .ok (.iconst 0, 1) := by decide +kernel
theorem dX6_ofCard_70 : decode cX6_ofCard 70 = .ok (.ireturn, 1) := by decide +kernel
theorem dX6_ofCard_71 : decode cX6_ofCard 71 = .ok (.aload_n 3, 1) := by decide +kernel
theorem dX6_ofCard_72 : decode cX6_ofCard 72 = .ok (.iload 4, 2) := by decide +kernel
theorem dX6_ofCard_74 : decode cX6_ofCard 74 = .ok (.invokevirtual 141, 3) := by decide +kernel
theorem dX6_ofCard_77 : decode cX6_ofCard 77 = .ok (.ireturn, 1) := by decide +kernel
theorem dX6_ofCard_78 : decode cX6_ofCard 78 = .ok (.aload_n 3, 1) := by decide +kernel
theorem dX6_ofCard_79 : decode cX6_ofCard 79 = .ok (.iload 4, 2) := by decide +kernel
theorem dX6_ofCard_81 : decode cX6_ofCard 81 = .ok (.invokevirtual 144, 3) := by decide +kernel
theorem dX6_ofCard_84 : decode cX6_ofCard 84 = .ok (.ireturn, 1) := by decide +kernel
theorem dX6_ofCard_85 : decode cX6_ofCard 85 = .ok (.aload_n 3, 1) := by decide +kernel
theorem dX6_ofCard_86 : decode cX6_ofCard 86 = .ok (.iload 4, 2) := by decide +kernel
theorem dX6_ofCard_88 : decode cX6_ofCard 88 = .ok (.invokevirtual 147, 3) := by decide +kernel
theorem dX6_ofCard_91 : decode cX6_ofCard 91 = .ok (.ireturn, 1) := by decide +kernel
theorem dX6_ofCard_92 : decode cX6_ofCard 92 = .ok (.bipush (-2), 2) := by decide +kernel
theorem dX6_ofCard_94 : decode cX6_ofCard 94 = .ok (.ireturn, 1) := by decide +kernel
theorem dX6_told_0 : decode cX6_told 0 = .ok (.iload_n 1, 1) := by decide +kernel
theorem dX6_told_1 : decode cX6_told 1 = .ok (.ifCond .ge 6, 3) := by decide +kernel
theorem dX6_told_4 : decode cX6_told 4 = .ok (.bipush (-2), 2) := by decide +kernel
theorem dX6_told_6 : decode cX6_told 6 = .ok (.ireturn, 1) := by decide +kernel
theorem dX6_told_7 : decode cX6_told 7 = .ok (.iload_n 1, 1) := by decide +kernel
theorem dX6_told_8 : decode cX6_told 8 = .ok (.aload_n 0, 1) := by decide +kernel
theorem dX6_told_9 : decode cX6_told 9 = .ok (.getfield 10, 3) := by decide +kernel
theorem dX6_told_12 : decode cX6_told 12 = .ok (.getfield 150, 3) := by decide +kernel
theorem dX6_told_15 : decode cX6_told 15 = .ok (.invokevirtual 154, 3) := by decide +kernel
theorem dX6_told_18 : decode cX6_told 18 = .ok (.if_icmp .ge 17, 3) := by decide +kernel
theorem dX6_told_21 : decode cX6_told 21 = .ok (.aload_n 0, 1) := by decide +kernel
theorem dX6_told_22 : decode cX6_told 22 = .ok (.getfield 10, 3) := by decide +kernel
theorem dX6_told_25 : decode cX6_told 25 = .ok (.getfield 150, 3) := by decide +kernel
theorem dX6_told_28 : decode cX6_told 28 = .ok (.iload_n 1, 1) := by decide +kernel
theorem dX6_told_29 : decode cX6_told 29 = .ok (.invokevirtual 159, 3) := by decide +kernel
theorem dX6_told_32 : decode cX6_told 32 = .ok (.goto 5, 3) := by decide +kernel
theorem dX6_told_35 : decode cX6_told 35 = .ok (.bipush (-5), 2) := by decide +kernel
theorem dX6_told_37 : decode cX6_told 37 = .ok (.ireturn, 1) := by decide +kernel
theorem dX6_total_0 : decode cX6_total 0 = .ok (.iload_n 1, 1) := by decide +kernel
theorem dX6_total_1 : decode cX6_total 1 = .ok (.tableswitch 169 0 16 #[83, 94, 105, 116, 169, 169, 169, 169, 169, 169, 169, 127, 136, 145, 169, 153, 161], 83) := by decide +kernel
theorem dX6_total_84 : decode cX6_total 84 = .ok (.aload_n 0, 1) := by decide +kernel
theorem dX6_total_85 : decode cX6_total 85 = .ok (.getfield 10, 3) := by decide +kernel
theorem dX6_total_88 : decode cX6_total 88 = .ok (.getfield 122, 3) := by decide +kernel
theorem dX6_total_91 : decode cX6_total 91 = .ok (.invokevirtual 126, 3) := by decide +kernel
theorem dX6_total_94 : decode cX6_total 94 = .ok (.ireturn, 1) := by decide +kernel
theorem dX6_total_95 : decode cX6_total 95 = .ok (.aload_n 0, 1) := by decide +kernel
theorem dX6_total_96 : decode cX6_total 96 = .ok (.getfield 10, 3) := by decide +kernel
theorem dX6_total_99 : decode cX6_total 99 = .ok (.getfield 122, 3) := by decide +kernel
theorem dX6_total_102 : decode cX6_total 102 = .ok (.invokevirtual 160, 3) := by decide +kernel
theorem dX6_total_105 : decode cX6_total 105 = .ok (.ireturn, 1) := by decide +kernel
theorem dX6_total_106 : decode cX6_total 106 = .ok (.aload_n 0, 1) := by decide +kernel
theorem dX6_total_107 : decode cX6_total 107 = .ok (.getfield 10, 3) := by decide +kernel
theorem dX6_total_110 : decode cX6_total 110 = .ok (.getfield 122, 3) := by decide +kernel
theorem dX6_total_113 : decode cX6_total 113 = .ok (.invokevirtual 163, 3) := by decide +kernel
theorem dX6_total_116 : decode cX6_total 116 = .ok (.ireturn, 1) := by decide +kernel
theorem dX6_total_117 : decode cX6_total 117 = .ok (.aload_n 0, 1) := by decide +kernel
theorem dX6_total_118 : decode cX6_total 118 = .ok (.getfield 10, 3) := by decide +kernel
theorem dX6_total_121 : decode cX6_total 121 = .ok (.getfield 150, 3) := by decide +kernel
theorem dX6_total_124 : decode cX6_total 124 = .ok (.invokevirtual 154, 3) := by decide +kernel
theorem dX6_total_127 : decode cX6_total 127 = .ok (.ireturn, 1) := by decide +kernel
theorem dX6_total_128 : decode cX6_total 128 = .ok (.aload_n 0, 1) := by decide +kernel
theorem dX6_total_129 : decode cX6_total 129 = .ok (.getfield 10, 3) := by decide +kernel
theorem dX6_total_132 : decode cX6_total 132 = .ok (.iconst 0, 1) := by decide +kernel
theorem dX6_total_133 : decode cX6_total 133 = .ok (.invokevirtual 166, 3) := by decide +kernel
theorem dX6_total_136 : decode cX6_total 136 = .ok (.ireturn, 1) := by decide +kernel
theorem dX6_total_137 : decode cX6_total 137 = .ok (.aload_n 0, 1) := by decide +kernel
theorem dX6_total_138 : decode cX6_total 138 = .ok (.getfield 10, 3) := by decide +kernel
theorem dX6_total_141 : decode cX6_total 141 = .ok (.iconst 1, 1) := by decide +kernel
theorem dX6_total_142 : decode cX6_total 142 = .ok (.invokevirtual 166, 3) := by decide +kernel
theorem dX6_total_145 : decode cX6_total 145 = .ok (.ireturn, 1) := by decide +kernel
theorem dX6_total_146 : decode cX6_total 146 = .ok (.aload_n 0, 1) := by decide +kernel
theorem dX6_total_147 : decode cX6_total 147 = .ok (.getfield 10, 3) := by decide +kernel
theorem dX6_total_150 : decode cX6_total 150 = .ok (.getfield 169, 3) := by decide +kernel
theorem dX6_total_153 : decode cX6_total 153 = .ok (.ireturn, 1) := by decide +kernel
theorem dX6_total_154 : decode cX6_total 154 = .ok (.aload_n 0, 1) := by decide +kernel
theorem dX6_total_155 : decode cX6_total 155 = .ok (.getfield 32, 3) := by decide +kernel
theorem dX6_total_158 : decode cX6_total 158 = .ok (.invokevirtual 173, 3) := by decide +kernel
theorem dX6_total_161 : decode cX6_total 161 = .ok (.ireturn, 1) := by decide +kernel
theorem dX6_total_162 : decode cX6_total 162 = .ok (.aload_n 0, 1) := by decide +kernel
theorem dX6_total_163 : decode cX6_total 163 = .ok (.getfield 39, 3) := by decide +kernel
theorem dX6_total_166 : decode cX6_total 166 = .ok (.invokevirtual 176, 3) := by decide +kernel
theorem dX6_total_169 : decode cX6_total 169 = .ok (.ireturn, 1) := by decide +kernel
theorem dX6_total_170 : decode cX6_total 170 = .ok (.aload_n 0, 1) := by decide +kernel
theorem dX6_total_171 : decode cX6_total 171 = .ok (.getfield 10, 3) := by decide +kernel
theorem dX6_total_174 : decode cX6_total 174 = .ok (.getfield 179, 3) := by decide +kernel
theorem dX6_total_177 : decode cX6_total 177 = .ok (.iload_n 1, 1) := by decide +kernel
theorem dX6_total_178 : decode cX6_total 178 = .ok (.invokevirtual 183, 3) := by decide +kernel
theorem dX6_total_181 : decode cX6_total 181 = .ok (.ireturn, 1) := by decide +kernel
theorem dX6_count_0 : decode cX6_count 0 = .ok (.iload_n 1, 1) := by decide +kernel
theorem dX6_count_1 : decode cX6_count 1 = .ok (.iload_n 2, 1) := by decide +kernel
theorem dX6_count_2 : decode cX6_count 2 = .ok (.invokestatic 77, 3) := by decide +kernel
theorem dX6_count_5 : decode cX6_count 5 = .ok (.ifCond .eq 18, 3) := by decide +kernel
theorem dX6_count_8 : decode cX6_count 8 = .ok (.aload_n 0, 1) := by decide +kernel
theorem dX6_count_9 : decode cX6_count 9 = .ok (.getfield 10, 3) := by decide +kernel
theorem dX6_count_12 : decode cX6_count 12 = .ok (.getfield 122, 3) := by decide +kernel
theorem dX6_count_15 : decode cX6_count 15 = .ok (.iload_n 1, 1) := by decide +kernel
theorem dX6_count_16 : decode cX6_count 16 = .ok (.iload_n 2, 1) := by decide +kernel
theorem dX6_count_17 : decode cX6_count 17 = .ok (.invokevirtual 188, 3) := by decide +kernel
theorem dX6_count_20 : decode cX6_count 20 = .ok (.goto 5, 3) := by decide +kernel
theorem dX6_count_23 : decode cX6_count 23 = .ok (.bipush (-2), 2) := by decide +kernel
theorem dX6_count_25 : decode cX6_count 25 = .ok (.ireturn, 1) := by decide +kernel
theorem dX6_walkTakes_0 : decode cX6_walkTakes 0 = .ok (.iload_n 2, 1) := by decide +kernel
theorem dX6_walkTakes_1 : decode cX6_walkTakes 1 = .ok (.ifCond .lt 8, 3) := by decide +kernel
theorem dX6_walkTakes_4 : decode cX6_walkTakes 4 = .ok (.iload_n 2, 1) := by decide +kernel
theorem dX6_walkTakes_5 : decode cX6_walkTakes 5 = .ok (.iconst 4, 1) := by decide +kernel
theorem dX6_walkTakes_6 : decode cX6_walkTakes 6 = .ok (.if_icmp .le 6, 3) := by decide +kernel
theorem dX6_walkTakes_9 : decode cX6_walkTakes 9 = .ok (.bipush (-2), 2) := by decide +kernel
theorem dX6_walkTakes_11 : decode cX6_walkTakes 11 = .ok (.ireturn, 1) := by decide +kernel
theorem dX6_walkTakes_12 : decode cX6_walkTakes 12 = .ok (.aload_n 0, 1) := by decide +kernel
theorem dX6_walkTakes_13 : decode cX6_walkTakes 13 = .ok (.getfield 19, 3) := by decide +kernel
theorem dX6_walkTakes_16 : decode cX6_walkTakes 16 = .ok (.aload_n 0, 1) := by decide +kernel
theorem dX6_walkTakes_17 : decode cX6_walkTakes 17 = .ok (.getfield 10, 3) := by decide +kernel
theorem dX6_walkTakes_20 : decode cX6_walkTakes 20 = .ok (.invokevirtual 43, 3) := by decide +kernel
theorem dX6_walkTakes_23 : decode cX6_walkTakes 23 = .ok (.aload_n 0, 1) := by decide +kernel
theorem dX6_walkTakes_24 : decode cX6_walkTakes 24 = .ok (.getfield 19, 3) := by decide +kernel
theorem dX6_walkTakes_27 : decode cX6_walkTakes 27 = .ok (.iload_n 1, 1) := by decide +kernel
theorem dX6_walkTakes_28 : decode cX6_walkTakes 28 = .ok (.invokevirtual 84, 3) := by decide +kernel
theorem dX6_walkTakes_31 : decode cX6_walkTakes 31 = .ok (.istore_n 3, 1) := by decide +kernel
theorem dX6_walkTakes_32 : decode cX6_walkTakes 32 = .ok (.iload_n 2, 1) := by decide +kernel
theorem dX6_walkTakes_33 : decode cX6_walkTakes 33 = .ok (.tableswitch 99 0 3 #[31, 53, 75, 77], 31) := by decide +kernel
theorem dX6_walkTakes_64 : decode cX6_walkTakes 64 = .ok (.aload_n 0, 1) := by decide +kernel
theorem dX6_walkTakes_65 : decode cX6_walkTakes 65 = .ok (.getfield 19, 3) := by decide +kernel
theorem dX6_walkTakes_68 : decode cX6_walkTakes 68 = .ok (.getfield 179, 3) := by decide +kernel
theorem dX6_walkTakes_71 : decode cX6_walkTakes 71 = .ok (.getfield 191, 3) := by decide +kernel
theorem dX6_walkTakes_74 : decode cX6_walkTakes 74 = .ok (.aload_n 0, 1) := by decide +kernel
theorem dX6_walkTakes_75 : decode cX6_walkTakes 75 = .ok (.getfield 10, 3) := by decide +kernel
theorem dX6_walkTakes_78 : decode cX6_walkTakes 78 = .ok (.getfield 179, 3) := by decide +kernel
theorem dX6_walkTakes_81 : decode cX6_walkTakes 81 = .ok (.getfield 191, 3) := by decide +kernel
theorem dX6_walkTakes_84 : decode cX6_walkTakes 84 = .ok (.isub, 1) := by decide +kernel
theorem dX6_walkTakes_85 : decode cX6_walkTakes 85 = .ok (.ireturn, 1) := by decide +kernel
theorem dX6_walkTakes_86 : decode cX6_walkTakes 86 = .ok (.aload_n 0, 1) := by decide +kernel
theorem dX6_walkTakes_87 : decode cX6_walkTakes 87 = .ok (.getfield 19, 3) := by decide +kernel
theorem dX6_walkTakes_90 : decode cX6_walkTakes 90 = .ok (.getfield 179, 3) := by decide +kernel
theorem dX6_walkTakes_93 : decode cX6_walkTakes 93 = .ok (.getfield 194, 3) := by decide +kernel
theorem dX6_walkTakes_96 : decode cX6_walkTakes 96 = .ok (.aload_n 0, 1) := by decide +kernel
theorem dX6_walkTakes_97 : decode cX6_walkTakes 97 = .ok (.getfield 10, 3) := by decide +kernel
theorem dX6_walkTakes_100 : decode cX6_walkTakes 100 = .ok (.getfield 179, 3) := by decide +kernel
theorem dX6_walkTakes_103 : decode cX6_walkTakes 103 = .ok (.getfield 194, 3) := by decide +kernel
theorem dX6_walkTakes_106 : decode cX6_walkTakes 106 = .ok (.isub, 1) := by decide +kernel
theorem dX6_walkTakes_107 : decode cX6_walkTakes 107 = .ok (.ireturn, 1) := by decide +kernel
theorem dX6_walkTakes_108 : decode cX6_walkTakes 108 = .ok (.iload_n 3, 1) := by decide +kernel
theorem dX6_walkTakes_109 : decode cX6_walkTakes 109 = .ok (.ireturn, 1) := by decide +kernel
theorem dX6_walkTakes_110 : decode cX6_walkTakes 110 = .ok (.aload_n 0, 1) := by decide +kernel
theorem dX6_walkTakes_111 : decode cX6_walkTakes 111 = .ok (.getfield 19, 3) := by decide +kernel
theorem dX6_walkTakes_114 : decode cX6_walkTakes 114 = .ok (.getfield 179, 3) := by decide +kernel
theorem dX6_walkTakes_117 : decode cX6_walkTakes 117 = .ok (.getfield 197, 3) := by decide +kernel
theorem dX6_walkTakes_120 : decode cX6_walkTakes 120 = .ok (.aload_n 0, 1) := by decide +kernel
theorem dX6_walkTakes_121 : decode cX6_walkTakes 121 = .ok (.getfield 10, 3) := by decide +kernel
theorem dX6_walkTakes_124 : decode cX6_walkTakes 124 = .ok (.getfield 179, 3) := by decide +kernel
theorem dX6_walkTakes_127 : decode cX6_walkTakes 127 = .ok (.getfield 197, 3) := by decide +kernel
theorem dX6_walkTakes_130 : decode cX6_walkTakes 130 = .ok (.isub, 1) := by decide +kernel
theorem dX6_walkTakes_131 : decode cX6_walkTakes 131 = .ok (.ireturn, 1) := by decide +kernel
theorem dX6_walkTakes_132 : decode cX6_walkTakes 132 = .ok (.aload_n 0, 1) := by decide +kernel
theorem dX6_walkTakes_133 : decode cX6_walkTakes 133 = .ok (.getfield 19, 3) := by decide +kernel
theorem dX6_walkTakes_136 : decode cX6_walkTakes 136 = .ok (.getfield 200, 3) := by decide +kernel
theorem dX6_walkTakes_139 : decode cX6_walkTakes 139 = .ok (.ireturn, 1) := by decide +kernel
theorem dX6_roundsTake_0 : decode cX6_roundsTake 0 = .ok (.iload_n 1, 1) := by decide +kernel
theorem dX6_roundsTake_1 : decode cX6_roundsTake 1 = .ok (.invokestatic 203, 3) := by decide +kernel
theorem dX6_roundsTake_4 : decode cX6_roundsTake 4 = .ok (.ifCond .eq 12, 3) := by decide +kernel
theorem dX6_roundsTake_7 : decode cX6_roundsTake 7 = .ok (.iload_n 2, 1) := by decide +kernel
theorem dX6_roundsTake_8 : decode cX6_roundsTake 8 = .ok (.ifCond .lt 8, 3) := by decide +kernel
theorem dX6_roundsTake_11 : decode cX6_roundsTake 11 = .ok (.iload_n 2, 1) := by decide +kernel
theorem dX6_roundsTake_12 : decode cX6_roundsTake 12 = .ok (.iconst 4, 1) := by decide +kernel
theorem dX6_roundsTake_13 : decode cX6_roundsTake 13 = .ok (.if_icmp .le 6, 3) := by decide +kernel
theorem dX6_roundsTake_16 : decode cX6_roundsTake 16 = .ok (.bipush (-2), 2) := by decide +kernel
theorem dX6_roundsTake_18 : decode cX6_roundsTake 18 = .ok (.ireturn, 1) := by decide +kernel
theorem dX6_roundsTake_19 : decode cX6_roundsTake 19 = .ok (.aload_n 0, 1) := by decide +kernel
theorem dX6_roundsTake_20 : decode cX6_roundsTake 20 = .ok (.getfield 19, 3) := by decide +kernel
theorem dX6_roundsTake_23 : decode cX6_roundsTake 23 = .ok (.aload_n 0, 1) := by decide +kernel
theorem dX6_roundsTake_24 : decode cX6_roundsTake 24 = .ok (.getfield 10, 3) := by decide +kernel
theorem dX6_roundsTake_27 : decode cX6_roundsTake 27 = .ok (.invokevirtual 43, 3) := by decide +kernel
theorem dX6_roundsTake_30 : decode cX6_roundsTake 30 = .ok (.aload_n 0, 1) := by decide +kernel
theorem dX6_roundsTake_31 : decode cX6_roundsTake 31 = .ok (.getfield 19, 3) := by decide +kernel
theorem dX6_roundsTake_34 : decode cX6_roundsTake 34 = .ok (.iload_n 1, 1) := by decide +kernel
theorem dX6_roundsTake_35 : decode cX6_roundsTake 35 = .ok (.invokevirtual 91, 3) := by decide +kernel
theorem dX6_roundsTake_38 : decode cX6_roundsTake 38 = .ok (.istore_n 3, 1) := by decide +kernel
theorem dX6_roundsTake_39 : decode cX6_roundsTake 39 = .ok (.iload_n 2, 1) := by decide +kernel
theorem dX6_roundsTake_40 : decode cX6_roundsTake 40 = .ok (.tableswitch 100 0 3 #[32, 34, 56, 78], 32) := by decide +kernel
theorem dX6_roundsTake_72 : decode cX6_roundsTake 72 = .ok (.iload_n 3, 1) := by decide +kernel
theorem dX6_roundsTake_73 : decode cX6_roundsTake 73 = .ok (.ireturn, 1) := by decide +kernel
theorem dX6_roundsTake_74 : decode cX6_roundsTake 74 = .ok (.aload_n 0, 1) := by decide +kernel
theorem dX6_roundsTake_75 : decode cX6_roundsTake 75 = .ok (.getfield 19, 3) := by decide +kernel
theorem dX6_roundsTake_78 : decode cX6_roundsTake 78 = .ok (.getfield 179, 3) := by decide +kernel
theorem dX6_roundsTake_81 : decode cX6_roundsTake 81 = .ok (.getfield 194, 3) := by decide +kernel
theorem dX6_roundsTake_84 : decode cX6_roundsTake 84 = .ok (.aload_n 0, 1) := by decide +kernel
theorem dX6_roundsTake_85 : decode cX6_roundsTake 85 = .ok (.getfield 10, 3) := by decide +kernel
theorem dX6_roundsTake_88 : decode cX6_roundsTake 88 = .ok (.getfield 179, 3) := by decide +kernel
theorem dX6_roundsTake_91 : decode cX6_roundsTake 91 = .ok (.getfield 194, 3) := by decide +kernel
theorem dX6_roundsTake_94 : decode cX6_roundsTake 94 = .ok (.isub, 1) := by decide +kernel
theorem dX6_roundsTake_95 : decode cX6_roundsTake 95 = .ok (.ireturn, 1) := by decide +kernel
theorem dX6_roundsTake_96 : decode cX6_roundsTake 96 = .ok (.aload_n 0, 1) := by decide +kernel
theorem dX6_roundsTake_97 : decode cX6_roundsTake 97 = .ok (.getfield 19, 3) := by decide +kernel
theorem dX6_roundsTake_100 : decode cX6_roundsTake 100 = .ok (.getfield 179, 3) := by decide +kernel
theorem dX6_roundsTake_103 : decode cX6_roundsTake 103 = .ok (.getfield 206, 3) := by decide +kernel
theorem dX6_roundsTake_106 : decode cX6_roundsTake 106 = .ok (.aload_n 0, 1) := by decide +kernel
theorem dX6_roundsTake_107 : decode cX6_roundsTake 107 = .ok (.getfield 10, 3) := by decide +kernel
theorem dX6_roundsTake_110 : decode cX6_roundsTake 110 = .ok (.getfield 179, 3) := by decide +kernel
theorem dX6_roundsTake_113 : decode cX6_roundsTake 113 = .ok (.getfield 206, 3) := by decide +kernel
theorem dX6_roundsTake_116 : decode cX6_roundsTake 116 = .ok (.isub, 1) := by decide +kernel
theorem dX6_roundsTake_117 : decode cX6_roundsTake 117 = .ok (.ireturn, 1) := by decide +kernel
theorem dX6_roundsTake_118 : decode cX6_roundsTake 118 = .ok (.aload_n 0, 1) := by decide +kernel
theorem dX6_roundsTake_119 : decode cX6_roundsTake 119 = .ok (.getfield 19, 3) := by decide +kernel
theorem dX6_roundsTake_122 : decode cX6_roundsTake 122 = .ok (.getfield 179, 3) := by decide +kernel
theorem dX6_roundsTake_125 : decode cX6_roundsTake 125 = .ok (.getfield 197, 3) := by decide +kernel
theorem dX6_roundsTake_128 : decode cX6_roundsTake 128 = .ok (.aload_n 0, 1) := by decide +kernel
theorem dX6_roundsTake_129 : decode cX6_roundsTake 129 = .ok (.getfield 10, 3) := by decide +kernel
theorem dX6_roundsTake_132 : decode cX6_roundsTake 132 = .ok (.getfield 179, 3) := by decide +kernel
theorem dX6_roundsTake_135 : decode cX6_roundsTake 135 = .ok (.getfield 197, 3) := by decide +kernel
theorem dX6_roundsTake_138 : decode cX6_roundsTake 138 = .ok (.isub, 1) := by decide +kernel
theorem dX6_roundsTake_139 : decode cX6_roundsTake 139 = .ok (.ireturn, 1) := by decide +kernel
theorem dX6_roundsTake_140 : decode cX6_roundsTake 140 = .ok (.aload_n 0, 1) := by decide +kernel
theorem dX6_roundsTake_141 : decode cX6_roundsTake 141 = .ok (.getfield 19, 3) := by decide +kernel
theorem dX6_roundsTake_144 : decode cX6_roundsTake 144 = .ok (.getfield 179, 3) := by decide +kernel
theorem dX6_roundsTake_147 : decode cX6_roundsTake 147 = .ok (.getfield 208, 3) := by decide +kernel
theorem dX6_roundsTake_150 : decode cX6_roundsTake 150 = .ok (.aload_n 0, 1) := by decide +kernel
theorem dX6_roundsTake_151 : decode cX6_roundsTake 151 = .ok (.getfield 10, 3) := by decide +kernel
theorem dX6_roundsTake_154 : decode cX6_roundsTake 154 = .ok (.getfield 179, 3) := by decide +kernel
theorem dX6_roundsTake_157 : decode cX6_roundsTake 157 = .ok (.getfield 208, 3) := by decide +kernel
theorem dX6_roundsTake_160 : decode cX6_roundsTake 160 = .ok (.isub, 1) := by decide +kernel
theorem dX6_roundsTake_161 : decode cX6_roundsTake 161 = .ok (.ireturn, 1) := by decide +kernel
theorem dX6_thickest_0 : decode cX6_thickest 0 = .ok (.iload_n 1, 1) := by decide +kernel
theorem dX6_thickest_1 : decode cX6_thickest 1 = .ok (.iconst 0, 1) := by decide +kernel
theorem dX6_thickest_2 : decode cX6_thickest 2 = .ok (.invokestatic 77, 3) := by decide +kernel
theorem dX6_thickest_5 : decode cX6_thickest 5 = .ok (.ifCond .ne 6, 3) := by decide +kernel
theorem dX6_thickest_8 : decode cX6_thickest 8 = .ok (.bipush (-2), 2) := by decide +kernel
theorem dX6_thickest_10 : decode cX6_thickest 10 = .ok (.ireturn, 1) := by decide +kernel
theorem dX6_thickest_11 : decode cX6_thickest 11 = .ok (.bipush (-5), 2) := by decide +kernel
theorem dX6_thickest_13 : decode cX6_thickest 13 = .ok (.istore_n 2, 1) := by decide +kernel
theorem dX6_thickest_14 : decode cX6_thickest 14 = .ok (.iconst 0, 1) := by decide +kernel
theorem dX6_thickest_15 : decode cX6_thickest 15 = .ok (.istore_n 3, 1) := by decide +kernel
theorem dX6_thickest_16 : decode cX6_thickest 16 = .ok (.iconst 0, 1) := by decide +kernel
theorem dX6_thickest_17 : decode cX6_thickest 17 = .ok (.istore 4, 2) := by decide +kernel
theorem dX6_thickest_19 : decode cX6_thickest 19 = .ok (.iload 4, 2) := by decide +kernel
theorem dX6_thickest_21 : decode cX6_thickest 21 = .ok (.iconst 1, 1) := by decide +kernel
theorem dX6_thickest_22 : decode cX6_thickest 22 = .ok (.iload_n 1, 1) := by decide +kernel
theorem dX6_thickest_23 : decode cX6_thickest 23 = .ok (.ishl, 1) := by decide +kernel
theorem dX6_thickest_24 : decode cX6_thickest 24 = .ok (.if_icmp .ge 36, 3) := by decide +kernel
theorem dX6_thickest_27 : decode cX6_thickest 27 = .ok (.aload_n 0, 1) := by decide +kernel
theorem dX6_thickest_28 : decode cX6_thickest 28 = .ok (.getfield 10, 3) := by decide +kernel
theorem dX6_thickest_31 : decode cX6_thickest 31 = .ok (.getfield 122, 3) := by decide +kernel
theorem dX6_thickest_34 : decode cX6_thickest 34 = .ok (.iload_n 1, 1) := by decide +kernel
theorem dX6_thickest_35 : decode cX6_thickest 35 = .ok (.iload 4, 2) := by decide +kernel
theorem dX6_thickest_37 : decode cX6_thickest 37 = .ok (.invokevirtual 188, 3) := by decide +kernel
theorem dX6_thickest_40 : decode cX6_thickest 40 = .ok (.istore 5, 2) := by decide +kernel
theorem dX6_thickest_42 : decode cX6_thickest 42 = .ok (.iload 5, 2) := by decide +kernel
theorem dX6_thickest_44 : decode cX6_thickest 44 = .ok (.iload_n 3, 1) := by decide +kernel
theorem dX6_thickest_45 : decode cX6_thickest 45 = .ok (.if_icmp .le 9, 3) := by decide +kernel
theorem dX6_thickest_48 : decode cX6_thickest 48 = .ok (.iload 4, 2) := by decide +kernel
theorem dX6_thickest_50 : decode cX6_thickest 50 = .ok (.istore_n 2, 1) := by decide +kernel
theorem dX6_thickest_51 : decode cX6_thickest 51 = .ok (.iload 5, 2) := by decide +kernel
theorem dX6_thickest_53 : decode cX6_thickest 53 = .ok (.istore_n 3, 1) := by decide +kernel
theorem dX6_thickest_54 : decode cX6_thickest 54 = .ok (.iinc 4 1, 3) := by decide +kernel
theorem dX6_thickest_57 : decode cX6_thickest 57 = .ok (.goto (-38), 3) := by decide +kernel
theorem dX6_thickest_60 : decode cX6_thickest 60 = .ok (.iload_n 2, 1) := by decide +kernel
theorem dX6_thickest_61 : decode cX6_thickest 61 = .ok (.ireturn, 1) := by decide +kernel
theorem dX6_recorded_0 : decode cX6_recorded 0 = .ok (.iload_n 1, 1) := by decide +kernel
theorem dX6_recorded_1 : decode cX6_recorded 1 = .ok (.ifCond .lt 14, 3) := by decide +kernel
theorem dX6_recorded_4 : decode cX6_recorded 4 = .ok (.aload_n 0, 1) := by decide +kernel
theorem dX6_recorded_5 : decode cX6_recorded 5 = .ok (.getfield 32, 3) := by decide +kernel
theorem dX6_recorded_8 : decode cX6_recorded 8 = .ok (.aload_n 0, 1) := by decide +kernel
theorem dX6_recorded_9 : decode cX6_recorded 9 = .ok (.getfield 16, 3) := by decide +kernel
theorem dX6_recorded_12 : decode cX6_recorded 12 = .ok (.invokevirtual 211, 3) := by decide +kernel
theorem dX6_recorded_15 : decode cX6_recorded 15 = .ok (.iload_n 1, 1) := by decide +kernel
theorem dX6_recorded_16 : decode cX6_recorded 16 = .ok (.ireturn, 1) := by decide +kernel
theorem dX6_isBeginning_0 : decode cX6_isBeginning 0 = .ok (.iload_n 0, 1) := by decide +kernel
theorem dX6_isBeginning_1 : decode cX6_isBeginning 1 = .ok (.ifCond .lt 24, 3) := by decide +kernel
theorem dX6_isBeginning_4 : decode cX6_isBeginning 4 = .ok (.iload_n 0, 1) := by decide +kernel
theorem dX6_isBeginning_5 : decode cX6_isBeginning 5 = .ok (.bipush 8, 2) := by decide +kernel
theorem dX6_isBeginning_7 : decode cX6_isBeginning 7 = .ok (.if_icmp .gt 18, 3) := by decide +kernel
theorem dX6_isBeginning_10 : decode cX6_isBeginning 10 = .ok (.iload_n 1, 1) := by decide +kernel
theorem dX6_isBeginning_11 : decode cX6_isBeginning 11 = .ok (.ifCond .lt 14, 3) := by decide +kernel
theorem dX6_isBeginning_14 : decode cX6_isBeginning 14 = .ok (.iload_n 1, 1) := by decide +kernel
theorem dX6_isBeginning_15 : decode cX6_isBeginning 15 = .ok (.iconst 1, 1) := by decide +kernel
theorem dX6_isBeginning_16 : decode cX6_isBeginning 16 = .ok (.iload_n 0, 1) := by decide +kernel
theorem dX6_isBeginning_17 : decode cX6_isBeginning 17 = .ok (.ishl, 1) := by decide +kernel
theorem dX6_isBeginning_18 : decode cX6_isBeginning 18 = .ok (.if_icmp .ge 7, 3) := by decide +kernel
theorem dX6_isBeginning_21 : decode cX6_isBeginning 21 = .ok (.iconst 1, 1) := by decide +kernel
theorem dX6_isBeginning_22 : decode cX6_isBeginning 22 = .ok (.goto 4, 3) := by decide +kernel
theorem dX6_isBeginning_25 : decode cX6_isBeginning 25 = .ok (.iconst 0, 1) := by decide +kernel
theorem dX6_isBeginning_26 : decode cX6_isBeginning 26 = .ok (.ireturn, 1) := by decide +kernel
theorem dX6_isFrameSize_0 : decode cX6_isFrameSize 0 = .ok (.iload_n 0, 1) := by decide +kernel
theorem dX6_isFrameSize_1 : decode cX6_isFrameSize 1 = .ok (.iconst 1, 1) := by decide +kernel
theorem dX6_isFrameSize_2 : decode cX6_isFrameSize 2 = .ok (.if_icmp .lt 13, 3) := by decide +kernel
theorem dX6_isFrameSize_5 : decode cX6_isFrameSize 5 = .ok (.iload_n 0, 1) := by decide +kernel
theorem dX6_isFrameSize_6 : decode cX6_isFrameSize 6 = .ok (.bipush 64, 2) := by decide +kernel
theorem dX6_isFrameSize_8 : decode cX6_isFrameSize 8 = .ok (.if_icmp .gt 7, 3) := by decide +kernel
theorem dX6_isFrameSize_11 : decode cX6_isFrameSize 11 = .ok (.iconst 1, 1) := by decide +kernel
theorem dX6_isFrameSize_12 : decode cX6_isFrameSize 12 = .ok (.goto 4, 3) := by decide +kernel
theorem dX6_isFrameSize_15 : decode cX6_isFrameSize 15 = .ok (.iconst 0, 1) := by decide +kernel
theorem dX6_isFrameSize_16 : decode cX6_isFrameSize 16 = .ok (.ireturn, 1) := by decide +kernel
theorem dX6_firstBits_0 : decode cX6_firstBits 0 = .ok (.iload_n 1, 1) := by decide +kernel
theorem dX6_firstBits_1 : decode cX6_firstBits 1 = .ok (.ifCond .lt 18, 3) := by decide +kernel
theorem dX6_firstBits_4 : decode cX6_firstBits 4 = .ok (.iload_n 1, 1) := by decide +kernel
theorem dX6_firstBits_5 : decode cX6_firstBits 5 = .ok (.bipush 8, 2) := by decide +kernel
theorem dX6_firstBits_7 : decode cX6_firstBits 7 = .ok (.if_icmp .gt 12, 3) := by decide +kernel
theorem dX6_firstBits_10 : decode cX6_firstBits 10 = .ok (.iload_n 0, 1) := by decide +kernel
theorem dX6_firstBits_11 : decode cX6_firstBits 11 = .ok (.bipush 8, 2) := by decide +kernel
theorem dX6_firstBits_13 : decode cX6_firstBits 13 = .ok (.iload_n 1, 1) := by decide +kernel
theorem dX6_firstBits_14 : decode cX6_firstBits 14 = .ok (.isub, 1) := by decide +kernel
theorem dX6_firstBits_15 : decode cX6_firstBits 15 = .ok (.ishr, 1) := by decide +kernel
theorem dX6_firstBits_16 : decode cX6_firstBits 16 = .ok (.goto 4, 3) := by decide +kernel
theorem dX6_firstBits_19 : decode cX6_firstBits 19 = .ok (.iconst 0, 1) := by decide +kernel
theorem dX6_firstBits_20 : decode cX6_firstBits 20 = .ok (.ireturn, 1) := by decide +kernel
theorem dX6_firstOne_0 : decode cX6_firstOne 0 = .ok (.iconst 0, 1) := by decide +kernel
theorem dX6_firstOne_1 : decode cX6_firstOne 1 = .ok (.istore_n 1, 1) := by decide +kernel
theorem dX6_firstOne_2 : decode cX6_firstOne 2 = .ok (.iload_n 1, 1) := by decide +kernel
theorem dX6_firstOne_3 : decode cX6_firstOne 3 = .ok (.bipush 8, 2) := by decide +kernel
theorem dX6_firstOne_5 : decode cX6_firstOne 5 = .ok (.if_icmp .ge 18, 3) := by decide +kernel
theorem dX6_firstOne_8 : decode cX6_firstOne 8 = .ok (.iload_n 0, 1) := by decide +kernel
theorem dX6_firstOne_9 : decode cX6_firstOne 9 = .ok (.bipush 7, 2) := by decide +kernel
theorem dX6_firstOne_11 : decode cX6_firstOne 11 = .ok (.iload_n 1, 1) := by decide +kernel
theorem dX6_firstOne_12 : decode cX6_firstOne 12 = .ok (.isub, 1) := by decide +kernel
theorem dX6_firstOne_13 : decode cX6_firstOne 13 = .ok (.ishr, 1) := by decide +kernel
theorem dX6_firstOne_14 : decode cX6_firstOne 14 = .ok (.ifCond .ne 9, 3) := by decide +kernel
theorem dX6_firstOne_17 : decode cX6_firstOne 17 = .ok (.iinc 1 1, 3) := by decide +kernel
theorem dX6_firstOne_20 : decode cX6_firstOne 20 = .ok (.goto (-18), 3) := by decide +kernel
theorem dX6_firstOne_23 : decode cX6_firstOne 23 = .ok (.iload_n 1, 1) := by decide +kernel
theorem dX6_firstOne_24 : decode cX6_firstOne 24 = .ok (.ireturn, 1) := by decide +kernel
theorem dL_cell_0 : decode cL_cell 0 = .ok (.iload_n 1, 1) := by decide +kernel
theorem dL_cell_1 : decode cL_cell 1 = .ok (.aload_n 0, 1) := by decide +kernel
theorem dL_cell_2 : decode cL_cell 2 = .ok (.arraylength, 1) := by decide +kernel
theorem dL_cell_3 : decode cL_cell 3 = .ok (.if_icmp .ge 9, 3) := by decide +kernel
theorem dL_cell_6 : decode cL_cell 6 = .ok (.aload_n 0, 1) := by decide +kernel
theorem dL_cell_7 : decode cL_cell 7 = .ok (.iload_n 1, 1) := by decide +kernel
theorem dL_cell_8 : decode cL_cell 8 = .ok (.iaload, 1) := by decide +kernel
theorem dL_cell_9 : decode cL_cell 9 = .ok (.goto 14, 3) := by decide +kernel
theorem dL_cell_12 : decode cL_cell 12 = .ok (.ldc 7, 2) := by decide +kernel
theorem dL_cell_14 : decode cL_cell 14 = .ok (.iload_n 1, 1) := by decide +kernel
theorem dL_cell_15 : decode cL_cell 15 = .ok (.bipush 97, 2) := by decide +kernel
theorem dL_cell_17 : decode cL_cell 17 = .ok (.iadd, 1) := by decide +kernel
theorem dL_cell_18 : decode cL_cell 18 = .ok (.imul, 1) := by decide +kernel
theorem dL_cell_19 : decode cL_cell 19 = .ok (.sipush 20011, 3) := by decide +kernel
theorem dL_cell_22 : decode cL_cell 22 = .ok (.iadd, 1) := by decide +kernel
theorem dL_cell_23 : decode cL_cell 23 = .ok (.ldc 8, 2) := by decide +kernel
theorem dL_cell_25 : decode cL_cell 25 = .ok (.iand, 1) := by decide +kernel
theorem dL_cell_26 : decode cL_cell 26 = .ok (.ireturn, 1) := by decide +kernel
theorem dL_seen_0 : decode cL_seen 0 = .ok (.ldc2_w 9, 3) := by decide +kernel
theorem dL_seen_3 : decode cL_seen 3 = .ok (.lstore_n 1, 1) := by decide +kernel
theorem dL_seen_4 : decode cL_seen 4 = .ok (.iconst 0, 1) := by decide +kernel
theorem dL_seen_5 : decode cL_seen 5 = .ok (.istore_n 3, 1) := by decide +kernel
theorem dL_seen_6 : decode cL_seen 6 = .ok (.iload_n 3, 1) := by decide +kernel
theorem dL_seen_7 : decode cL_seen 7 = .ok (.bipush 15, 2) := by decide +kernel
theorem dL_seen_9 : decode cL_seen 9 = .ok (.if_icmp .ge 22, 3) := by decide +kernel
theorem dL_seen_12 : decode cL_seen 12 = .ok (.ldc2_w 11, 3) := by decide +kernel
theorem dL_seen_15 : decode cL_seen 15 = .ok (.lload_n 1, 1) := by decide +kernel
theorem dL_seen_16 : decode cL_seen 16 = .ok (.lmul, 1) := by decide +kernel
theorem dL_seen_17 : decode cL_seen 17 = .ok (.aload_n 0, 1) := by decide +kernel
theorem dL_seen_18 : decode cL_seen 18 = .ok (.iload_n 3, 1) := by decide +kernel
theorem dL_seen_19 : decode cL_seen 19 = .ok (.invokevirtual 13, 3) := by decide +kernel
theorem dL_seen_22 : decode cL_seen 22 = .ok (.i2l, 1) := by decide +kernel
theorem dL_seen_23 : decode cL_seen 23 = .ok (.ladd, 1) := by decide +kernel
theorem dL_seen_24 : decode cL_seen 24 = .ok (.lstore_n 1, 1) := by decide +kernel
theorem dL_seen_25 : decode cL_seen 25 = .ok (.iinc 3 1, 3) := by decide +kernel
theorem dL_seen_28 : decode cL_seen 28 = .ok (.goto (-22), 3) := by decide +kernel
theorem dL_seen_31 : decode cL_seen 31 = .ok (.iconst 0, 1) := by decide +kernel
theorem dL_seen_32 : decode cL_seen 32 = .ok (.istore_n 3, 1) := by decide +kernel
theorem dL_seen_33 : decode cL_seen 33 = .ok (.iload_n 3, 1) := by decide +kernel
theorem dL_seen_34 : decode cL_seen 34 = .ok (.aload_n 0, 1) := by decide +kernel
theorem dL_seen_35 : decode cL_seen 35 = .ok (.iconst 0, 1) := by decide +kernel
theorem dL_seen_36 : decode cL_seen 36 = .ok (.invokevirtual 13, 3) := by decide +kernel
theorem dL_seen_39 : decode cL_seen 39 = .ok (.if_icmp .ge 80, 3) := by decide +kernel
theorem dL_seen_42 : decode cL_seen 42 = .ok (.aload_n 0, 1) := by decide +kernel
theorem dL_seen_43 : decode cL_seen 43 = .ok (.iload_n 3, 1) := by decide +kernel
theorem dL_seen_44 : decode cL_seen 44 = .ok (.invokevirtual 19, 3) := by decide +kernel
theorem dL_seen_47 : decode cL_seen 47 = .ok (.istore 4, 2) := by decide +kernel
theorem dL_seen_49 : decode cL_seen 49 = .ok (.ldc2_w 11, 3) := by decide +kernel
theorem dL_seen_52 : decode cL_seen 52 = .ok (.ldc2_w 11, 3) := by decide +kernel
theorem dL_seen_55 : decode cL_seen 55 = .ok (.ldc2_w 11, 3) := by decide +kernel
theorem dL_seen_58 : decode cL_seen 58 = .ok (.lload_n 1, 1) := by decide +kernel
theorem dL_seen_59 : decode cL_seen 59 = .ok (.lmul, 1) := by decide +kernel
theorem dL_seen_60 : decode cL_seen 60 = .ok (.iload 4, 2) := by decide +kernel
theorem dL_seen_62 : decode cL_seen 62 = .ok (.i2l, 1) := by decide +kernel
theorem dL_seen_63 : decode cL_seen 63 = .ok (.ladd, 1) := by decide +kernel
theorem dL_seen_64 : decode cL_seen 64 = .ok (.lmul, 1) := by decide +kernel
theorem dL_seen_65 : decode cL_seen 65 = .ok (.aload_n 0, 1) := by decide +kernel
theorem dL_seen_66 : decode cL_seen 66 = .ok (.iload 4, 2) := by decide +kernel
theorem dL_seen_68 : decode cL_seen 68 = .ok (.iconst 0, 1) := by decide +kernel
theorem dL_seen_69 : decode cL_seen 69 = .ok (.invokevirtual 22, 3) := by decide +kernel
theorem dL_seen_72 : decode cL_seen 72 = .ok (.i2l, 1) := by decide +kernel
theorem dL_seen_73 : decode cL_seen 73 = .ok (.ladd, 1) := by decide +kernel
theorem dL_seen_74 : decode cL_seen 74 = .ok (.lmul, 1) := by decide +kernel
theorem dL_seen_75 : decode cL_seen 75 = .ok (.aload_n 0, 1) := by decide +kernel
theorem dL_seen_76 : decode cL_seen 76 = .ok (.iload 4, 2) := by decide +kernel
theorem dL_seen_78 : decode cL_seen 78 = .ok (.iconst 1, 1) := by decide +kernel
theorem dL_seen_79 : decode cL_seen 79 = .ok (.invokevirtual 22, 3) := by decide +kernel
theorem dL_seen_82 : decode cL_seen 82 = .ok (.i2l, 1) := by decide +kernel
theorem dL_seen_83 : decode cL_seen 83 = .ok (.ladd, 1) := by decide +kernel
theorem dL_seen_84 : decode cL_seen 84 = .ok (.lstore_n 1, 1) := by decide +kernel
theorem dL_seen_85 : decode cL_seen 85 = .ok (.ldc2_w 11, 3) := by decide +kernel
theorem dL_seen_88 : decode cL_seen 88 = .ok (.ldc2_w 11, 3) := by decide +kernel
theorem dL_seen_91 : decode cL_seen 91 = .ok (.lload_n 1, 1) := by decide +kernel
theorem dL_seen_92 : decode cL_seen 92 = .ok (.lmul, 1) := by decide +kernel
theorem dL_seen_93 : decode cL_seen 93 = .ok (.aload_n 0, 1) := by decide +kernel
theorem dL_seen_94 : decode cL_seen 94 = .ok (.iload 4, 2) := by decide +kernel
theorem dL_seen_96 : decode cL_seen 96 = .ok (.iconst 2, 1) := by decide +kernel
theorem dL_seen_97 : decode cL_seen 97 = .ok (.invokevirtual 22, 3) := by decide +kernel
theorem dL_seen_100 : decode cL_seen 100 = .ok (.i2l, 1) := by decide +kernel
theorem dL_seen_101 : decode cL_seen 101 = .ok (.ladd, 1) := by decide +kernel
theorem dL_seen_102 : decode cL_seen 102 = .ok (.lmul, 1) := by decide +kernel
theorem dL_seen_103 : decode cL_seen 103 = .ok (.aload_n 0, 1) := by decide +kernel
theorem dL_seen_104 : decode cL_seen 104 = .ok (.iload 4, 2) := by decide +kernel
theorem dL_seen_106 : decode cL_seen 106 = .ok (.iconst 3, 1) := by decide +kernel
theorem dL_seen_107 : decode cL_seen 107 = .ok (.invokevirtual 22, 3) := by decide +kernel
theorem dL_seen_110 : decode cL_seen 110 = .ok (.i2l, 1) := by decide +kernel
theorem dL_seen_111 : decode cL_seen 111 = .ok (.ladd, 1) := by decide +kernel
theorem dL_seen_112 : decode cL_seen 112 = .ok (.lstore_n 1, 1) := by decide +kernel
theorem dL_seen_113 : decode cL_seen 113 = .ok (.iinc 3 1, 3) := by decide +kernel
theorem dL_seen_116 : decode cL_seen 116 = .ok (.goto (-83), 3) := by decide +kernel
theorem dL_seen_119 : decode cL_seen 119 = .ok (.iconst 0, 1) := by decide +kernel
theorem dL_seen_120 : decode cL_seen 120 = .ok (.istore_n 3, 1) := by decide +kernel
theorem dL_seen_121 : decode cL_seen 121 = .ok (.iload_n 3, 1) := by decide +kernel
theorem dL_seen_122 : decode cL_seen 122 = .ok (.aload_n 0, 1) := by decide +kernel
theorem dL_seen_123 : decode cL_seen 123 = .ok (.iconst 3, 1) := by decide +kernel
theorem dL_seen_124 : decode cL_seen 124 = .ok (.invokevirtual 13, 3) := by decide +kernel
theorem dL_seen_127 : decode cL_seen 127 = .ok (.if_icmp .ge 22, 3) := by decide +kernel
theorem dL_seen_130 : decode cL_seen 130 = .ok (.ldc2_w 11, 3) := by decide +kernel
theorem dL_seen_133 : decode cL_seen 133 = .ok (.lload_n 1, 1) := by decide +kernel
theorem dL_seen_134 : decode cL_seen 134 = .ok (.lmul, 1) := by decide +kernel
theorem dL_seen_135 : decode cL_seen 135 = .ok (.aload_n 0, 1) := by decide +kernel
theorem dL_seen_136 : decode cL_seen 136 = .ok (.iload_n 3, 1) := by decide +kernel
theorem dL_seen_137 : decode cL_seen 137 = .ok (.invokevirtual 26, 3) := by decide +kernel
theorem dL_seen_140 : decode cL_seen 140 = .ok (.i2l, 1) := by decide +kernel
theorem dL_seen_141 : decode cL_seen 141 = .ok (.ladd, 1) := by decide +kernel
theorem dL_seen_142 : decode cL_seen 142 = .ok (.lstore_n 1, 1) := by decide +kernel
theorem dL_seen_143 : decode cL_seen 143 = .ok (.iinc 3 1, 3) := by decide +kernel
theorem dL_seen_146 : decode cL_seen 146 = .ok (.goto (-25), 3) := by decide +kernel
theorem dL_seen_149 : decode cL_seen 149 = .ok (.lload_n 1, 1) := by decide +kernel
theorem dL_seen_150 : decode cL_seen 150 = .ok (.lreturn, 1) := by decide +kernel
theorem dL_isWhole_0 : decode cL_isWhole 0 = .ok (.iconst 0, 1) := by decide +kernel
theorem dL_isWhole_1 : decode cL_isWhole 1 = .ok (.istore_n 1, 1) := by decide +kernel
theorem dL_isWhole_2 : decode cL_isWhole 2 = .ok (.iconst 0, 1) := by decide +kernel
theorem dL_isWhole_3 : decode cL_isWhole 3 = .ok (.istore_n 2, 1) := by decide +kernel
theorem dL_isWhole_4 : decode cL_isWhole 4 = .ok (.iconst 0, 1) := by decide +kernel
theorem dL_isWhole_5 : decode cL_isWhole 5 = .ok (.istore_n 3, 1) := by decide +kernel
theorem dL_isWhole_6 : decode cL_isWhole 6 = .ok (.iconst 0, 1) := by decide +kernel
theorem dL_isWhole_7 : decode cL_isWhole 7 = .ok (.istore 4, 2) := by decide +kernel
theorem dL_isWhole_9 : decode cL_isWhole 9 = .ok (.iconst 1, 1) := by decide +kernel
theorem dL_isWhole_10 : decode cL_isWhole 10 = .ok (.istore 5, 2) := by decide +kernel
theorem dL_isWhole_12 : decode cL_isWhole 12 = .ok (.iconst 0, 1) := by decide +kernel
theorem dL_isWhole_13 : decode cL_isWhole 13 = .ok (.istore 6, 2) := by decide +kernel
theorem dL_isWhole_15 : decode cL_isWhole 15 = .ok (.iload 6, 2) := by decide +kernel
theorem dL_isWhole_17 : decode cL_isWhole 17 = .ok (.aload_n 0, 1) := by decide +kernel
theorem dL_isWhole_18 : decode cL_isWhole 18 = .ok (.iconst 0, 1) := by decide +kernel
theorem dL_isWhole_19 : decode cL_isWhole 19 = .ok (.invokevirtual 13, 3) := by decide +kernel
theorem dL_isWhole_22 : decode cL_isWhole 22 = .ok (.if_icmp .ge 174, 3) := by decide +kernel
theorem dL_isWhole_25 : decode cL_isWhole 25 = .ok (.iload 5, 2) := by decide +kernel
theorem dL_isWhole_27 : decode cL_isWhole 27 = .ok (.ifCond .eq 169, 3) := by decide +kernel
theorem dL_isWhole_30 : decode cL_isWhole 30 = .ok (.aload_n 0, 1) := by decide +kernel
theorem dL_isWhole_31 : decode cL_isWhole 31 = .ok (.iload 6, 2) := by decide +kernel
theorem dL_isWhole_33 : decode cL_isWhole 33 = .ok (.invokevirtual 19, 3) := by decide +kernel
theorem dL_isWhole_36 : decode cL_isWhole 36 = .ok (.istore 7, 2) := by decide +kernel
theorem dL_isWhole_38 : decode cL_isWhole 38 = .ok (.aload_n 0, 1) := by decide +kernel
theorem dL_isWhole_39 : decode cL_isWhole 39 = .ok (.iload 7, 2) := by decide +kernel
theorem dL_isWhole_41 : decode cL_isWhole 41 = .ok (.iconst 3, 1) := by decide +kernel
theorem dL_isWhole_42 : decode cL_isWhole 42 = .ok (.invokevirtual 22, 3) := by decide +kernel
theorem dL_isWhole_45 : decode cL_isWhole 45 = .ok (.istore 8, 2) := by decide +kernel
theorem dL_isWhole_47 : decode cL_isWhole 47 = .ok (.iload_n 1, 1) := by decide +kernel
theorem dL_isWhole_48 : decode cL_isWhole 48 = .ok (.aload_n 0, 1) := by decide +kernel
theorem dL_isWhole_49 : decode cL_isWhole 49 = .ok (.iload 7, 2) := by decide +kernel
theorem dL_isWhole_51 : decode cL_isWhole 51 = .ok (.iconst 0, 1) := by decide +kernel
theorem dL_isWhole_52 : decode cL_isWhole 52 = .ok (.invokevirtual 22, 3) := by decide +kernel
theorem dL_isWhole_55 : decode cL_isWhole 55 = .ok (.iadd, 1) := by decide +kernel
theorem dL_isWhole_56 : decode cL_isWhole 56 = .ok (.istore_n 1, 1) := by decide +kernel
theorem dL_isWhole_57 : decode cL_isWhole 57 = .ok (.iload_n 2, 1) := by decide +kernel
theorem dL_isWhole_58 : decode cL_isWhole 58 = .ok (.aload_n 0, 1) := by decide +kernel
theorem dL_isWhole_59 : decode cL_isWhole 59 = .ok (.iload 7, 2) := by decide +kernel
theorem dL_isWhole_61 : decode cL_isWhole 61 = .ok (.iconst 1, 1) := by decide +kernel
theorem dL_isWhole_62 : decode cL_isWhole 62 = .ok (.invokevirtual 22, 3) := by decide +kernel
theorem dL_isWhole_65 : decode cL_isWhole 65 = .ok (.ifCond .le 7, 3) := by decide +kernel
theorem dL_isWhole_68 : decode cL_isWhole 68 = .ok (.iconst 1, 1) := by decide +kernel
theorem dL_isWhole_69 : decode cL_isWhole 69 = .ok (.goto 4, 3) := by decide +kernel
theorem dL_isWhole_72 : decode cL_isWhole 72 = .ok (.iconst 0, 1) := by decide +kernel
theorem dL_isWhole_73 : decode cL_isWhole 73 = .ok (.iadd, 1) := by decide +kernel
theorem dL_isWhole_74 : decode cL_isWhole 74 = .ok (.istore_n 2, 1) := by decide +kernel
theorem dL_isWhole_75 : decode cL_isWhole 75 = .ok (.iload 7, 2) := by decide +kernel
theorem dL_isWhole_77 : decode cL_isWhole 77 = .ok (.ifCond .lt 110, 3) := by decide +kernel
theorem dL_isWhole_80 : decode cL_isWhole 80 = .ok (.iload 7, 2) := by decide +kernel
theorem dL_isWhole_82 : decode cL_isWhole 82 = .ok (.sipush 256, 3) := by decide +kernel
theorem dL_isWhole_85 : decode cL_isWhole 85 = .ok (.if_icmp .ge 102, 3) := by decide +kernel
theorem dL_isWhole_88 : decode cL_isWhole 88 = .ok (.iload 6, 2) := by decide +kernel
theorem dL_isWhole_90 : decode cL_isWhole 90 = .ok (.ifCond .eq 16, 3) := by decide +kernel
theorem dL_isWhole_93 : decode cL_isWhole 93 = .ok (.iload 7, 2) := by decide +kernel
theorem dL_isWhole_95 : decode cL_isWhole 95 = .ok (.aload_n 0, 1) := by decide +kernel
theorem dL_isWhole_96 : decode cL_isWhole 96 = .ok (.iload 6, 2) := by decide +kernel
theorem dL_isWhole_98 : decode cL_isWhole 98 = .ok (.iconst 1, 1) := by decide +kernel
theorem dL_isWhole_99 : decode cL_isWhole 99 = .ok (.isub, 1) := by decide +kernel
theorem dL_isWhole_100 : decode cL_isWhole 100 = .ok (.invokevirtual 19, 3) := by decide +kernel
theorem dL_isWhole_103 : decode cL_isWhole 103 = .ok (.if_icmp .le 84, 3) := by decide +kernel
theorem dL_isWhole_106 : decode cL_isWhole 106 = .ok (.aload_n 0, 1) := by decide +kernel
theorem dL_isWhole_107 : decode cL_isWhole 107 = .ok (.bipush 8, 2) := by decide +kernel
theorem dL_isWhole_109 : decode cL_isWhole 109 = .ok (.iload 7, 2) := by decide +kernel
theorem dL_isWhole_111 : decode cL_isWhole 111 = .ok (.invokevirtual 29, 3) := by decide +kernel
theorem dL_isWhole_114 : decode cL_isWhole 114 = .ok (.aload_n 0, 1) := by decide +kernel
theorem dL_isWhole_115 : decode cL_isWhole 115 = .ok (.iload 7, 2) := by decide +kernel
theorem dL_isWhole_117 : decode cL_isWhole 117 = .ok (.iconst 0, 1) := by decide +kernel
theorem dL_isWhole_118 : decode cL_isWhole 118 = .ok (.invokevirtual 22, 3) := by decide +kernel
theorem dL_isWhole_121 : decode cL_isWhole 121 = .ok (.if_icmp .ne 66, 3) := by decide +kernel
theorem dL_isWhole_124 : decode cL_isWhole 124 = .ok (.aload_n 0, 1) := by decide +kernel
theorem dL_isWhole_125 : decode cL_isWhole 125 = .ok (.iload 7, 2) := by decide +kernel
theorem dL_isWhole_127 : decode cL_isWhole 127 = .ok (.iconst 1, 1) := by decide +kernel
theorem dL_isWhole_128 : decode cL_isWhole 128 = .ok (.invokevirtual 22, 3) := by decide +kernel
theorem dL_isWhole_131 : decode cL_isWhole 131 = .ok (.sipush 200, 3) := by decide +kernel
theorem dL_isWhole_134 : decode cL_isWhole 134 = .ok (.if_icmp .gt 53, 3) := by decide +kernel
theorem dL_isWhole_137 : decode cL_isWhole 137 = .ok (.aload_n 0, 1) := by decide +kernel
theorem dL_isWhole_138 : decode cL_isWhole 138 = .ok (.iload 7, 2) := by decide +kernel
theorem dL_isWhole_140 : decode cL_isWhole 140 = .ok (.iconst 2, 1) := by decide +kernel
theorem dL_isWhole_141 : decode cL_isWhole 141 = .ok (.invokevirtual 22, 3) := by decide +kernel
theorem dL_isWhole_144 : decode cL_isWhole 144 = .ok (.ifCond .lt 43, 3) := by decide +kernel
theorem dL_isWhole_147 : decode cL_isWhole 147 = .ok (.iload 8, 2) := by decide +kernel
theorem dL_isWhole_149 : decode cL_isWhole 149 = .ok (.bipush (-5), 2) := by decide +kernel
theorem dL_isWhole_151 : decode cL_isWhole 151 = .ok (.if_icmp .ne 7, 3) := by decide +kernel
theorem dL_isWhole_154 : decode cL_isWhole 154 = .ok (.iconst 1, 1) := by decide +kernel
theorem dL_isWhole_155 : decode cL_isWhole 155 = .ok (.goto 4, 3) := by decide +kernel
theorem dL_isWhole_158 : decode cL_isWhole 158 = .ok (.iconst 0, 1) := by decide +kernel
theorem dL_isWhole_159 : decode cL_isWhole 159 = .ok (.aload_n 0, 1) := by decide +kernel
theorem dL_isWhole_160 : decode cL_isWhole 160 = .ok (.iconst 0, 1) := by decide +kernel
theorem dL_isWhole_161 : decode cL_isWhole 161 = .ok (.invokevirtual 13, 3) := by decide +kernel
theorem dL_isWhole_164 : decode cL_isWhole 164 = .ok (.iconst 1, 1) := by decide +kernel
theorem dL_isWhole_165 : decode cL_isWhole 165 = .ok (.if_icmp .ne 7, 3) := by decide +kernel
theorem dL_isWhole_168 : decode cL_isWhole 168 = .ok (.iconst 1, 1) := by decide +kernel
theorem dL_isWhole_169 : decode cL_isWhole 169 = .ok (.goto 4, 3) := by decide +kernel
theorem dL_isWhole_172 : decode cL_isWhole 172 = .ok (.iconst 0, 1) := by decide +kernel
theorem dL_isWhole_173 : decode cL_isWhole 173 = .ok (.if_icmp .ne 14, 3) := by decide +kernel
theorem dL_isWhole_176 : decode cL_isWhole 176 = .ok (.iload 8, 2) := by decide +kernel
theorem dL_isWhole_178 : decode cL_isWhole 178 = .ok (.bipush 8, 2) := by decide +kernel
theorem dL_isWhole_180 : decode cL_isWhole 180 = .ok (.if_icmp .ge 7, 3) := by decide +kernel
theorem dL_isWhole_183 : decode cL_isWhole 183 = .ok (.iconst 1, 1) := by decide +kernel
theorem dL_isWhole_184 : decode cL_isWhole 184 = .ok (.goto 4, 3) := by decide +kernel
theorem dL_isWhole_187 : decode cL_isWhole 187 = .ok (.iconst 0, 1) := by decide +kernel
theorem dL_isWhole_188 : decode cL_isWhole 188 = .ok (.istore 5, 2) := by decide +kernel
theorem dL_isWhole_190 : decode cL_isWhole 190 = .ok (.iinc 6 1, 3) := by decide +kernel
theorem dL_isWhole_193 : decode cL_isWhole 193 = .ok (.goto (-178), 3) := by decide +kernel
theorem dL_isWhole_196 : decode cL_isWhole 196 = .ok (.iconst 0, 1) := by decide +kernel
theorem dL_isWhole_197 : decode cL_isWhole 197 = .ok (.istore 6, 2) := by decide +kernel
theorem dL_isWhole_199 : decode cL_isWhole 199 = .ok (.iload 6, 2) := by decide +kernel
theorem dL_isWhole_201 : decode cL_isWhole 201 = .ok (.bipush 16, 2) := by decide +kernel
theorem dL_isWhole_203 : decode cL_isWhole 203 = .ok (.if_icmp .ge 82, 3) := by decide +kernel
theorem dL_isWhole_206 : decode cL_isWhole 206 = .ok (.iload 5, 2) := by decide +kernel
theorem dL_isWhole_208 : decode cL_isWhole 208 = .ok (.ifCond .eq 77, 3) := by decide +kernel
theorem dL_isWhole_211 : decode cL_isWhole 211 = .ok (.aload_n 0, 1) := by decide +kernel
theorem dL_isWhole_212 : decode cL_isWhole 212 = .ok (.iconst 4, 1) := by decide +kernel
theorem dL_isWhole_213 : decode cL_isWhole 213 = .ok (.iload 6, 2) := by decide +kernel
theorem dL_isWhole_215 : decode cL_isWhole 215 = .ok (.invokevirtual 29, 3) := by decide +kernel
theorem dL_isWhole_218 : decode cL_isWhole 218 = .ok (.istore 7, 2) := by decide +kernel
theorem dL_isWhole_220 : decode cL_isWhole 220 = .ok (.iload_n 3, 1) := by decide +kernel
