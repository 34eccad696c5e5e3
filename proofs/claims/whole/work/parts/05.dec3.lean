theorem dX7_readText_2 : decode cX7_readText 2 = .ok (.putfield 166, 3) := by decide +kernel
theorem dX7_readText_5 : decode cX7_readText 5 = .ok (.aload_n 0, 1) := by decide +kernel
theorem dX7_readText_6 : decode cX7_readText 6 = .ok (.iconst 0, 1) := by decide +kernel
theorem dX7_readText_7 : decode cX7_readText 7 = .ok (.putfield 175, 3) := by decide +kernel
theorem dX7_readText_10 : decode cX7_readText 10 = .ok (.aload_n 0, 1) := by decide +kernel
theorem dX7_readText_11 : decode cX7_readText 11 = .ok (.invokevirtual 178, 3) := by decide +kernel
theorem dX7_readText_14 : decode cX7_readText 14 = .ok (.istore_n 1, 1) := by decide +kernel
theorem dX7_readText_15 : decode cX7_readText 15 = .ok (.iload_n 1, 1) := by decide +kernel
theorem dX7_readText_16 : decode cX7_readText 16 = .ok (.ifCond .eq 39, 3) := by decide +kernel
theorem dX7_readText_19 : decode cX7_readText 19 = .ok (.aload_n 0, 1) := by decide +kernel
theorem dX7_readText_20 : decode cX7_readText 20 = .ok (.getfield 166, 3) := by decide +kernel
theorem dX7_readText_23 : decode cX7_readText 23 = .ok (.aload_n 0, 1) := by decide +kernel
theorem dX7_readText_24 : decode cX7_readText 24 = .ok (.getfield 163, 3) := by decide +kernel
theorem dX7_readText_27 : decode cX7_readText 27 = .ok (.if_icmp .ge 28, 3) := by decide +kernel
theorem dX7_readText_30 : decode cX7_readText 30 = .ok (.aload_n 0, 1) := by decide +kernel
theorem dX7_readText_31 : decode cX7_readText 31 = .ok (.bipush 59, 2) := by decide +kernel
theorem dX7_readText_33 : decode cX7_readText 33 = .ok (.invokevirtual 182, 3) := by decide +kernel
theorem dX7_readText_36 : decode cX7_readText 36 = .ok (.ifCond .eq 14, 3) := by decide +kernel
theorem dX7_readText_39 : decode cX7_readText 39 = .ok (.aload_n 0, 1) := by decide +kernel
theorem dX7_readText_40 : decode cX7_readText 40 = .ok (.invokevirtual 178, 3) := by decide +kernel
theorem dX7_readText_43 : decode cX7_readText 43 = .ok (.ifCond .eq 7, 3) := by decide +kernel
theorem dX7_readText_46 : decode cX7_readText 46 = .ok (.iconst 1, 1) := by decide +kernel
theorem dX7_readText_47 : decode cX7_readText 47 = .ok (.goto 4, 3) := by decide +kernel
theorem dX7_readText_50 : decode cX7_readText 50 = .ok (.iconst 0, 1) := by decide +kernel
theorem dX7_readText_51 : decode cX7_readText 51 = .ok (.istore_n 1, 1) := by decide +kernel
theorem dX7_readText_52 : decode cX7_readText 52 = .ok (.goto (-37), 3) := by decide +kernel
theorem dX7_readText_55 : decode cX7_readText 55 = .ok (.iload_n 1, 1) := by decide +kernel
theorem dX7_readText_56 : decode cX7_readText 56 = .ok (.ireturn, 1) := by decide +kernel
theorem dX7_whyNot_0 : decode cX7_whyNot 0 = .ok (.iload_n 1, 1) := by decide +kernel
theorem dX7_whyNot_1 : decode cX7_whyNot 1 = .ok (.bipush 43, 2) := by decide +kernel
theorem dX7_whyNot_3 : decode cX7_whyNot 3 = .ok (.if_icmp .ne 11, 3) := by decide +kernel
theorem dX7_whyNot_6 : decode cX7_whyNot 6 = .ok (.aload_n 0, 1) := by decide +kernel
theorem dX7_whyNot_7 : decode cX7_whyNot 7 = .ok (.iload_n 2, 1) := by decide +kernel
theorem dX7_whyNot_8 : decode cX7_whyNot 8 = .ok (.invokevirtual 75, 3) := by decide +kernel
theorem dX7_whyNot_11 : decode cX7_whyNot 11 = .ok (.goto 30, 3) := by decide +kernel
theorem dX7_whyNot_14 : decode cX7_whyNot 14 = .ok (.iload_n 1, 1) := by decide +kernel
theorem dX7_whyNot_15 : decode cX7_whyNot 15 = .ok (.bipush 45, 2) := by decide +kernel
theorem dX7_whyNot_17 : decode cX7_whyNot 17 = .ok (.if_icmp .eq 9, 3) := by decide +kernel
theorem dX7_whyNot_20 : decode cX7_whyNot 20 = .ok (.iload_n 1, 1) := by decide +kernel
theorem dX7_whyNot_21 : decode cX7_whyNot 21 = .ok (.bipush 122, 2) := by decide +kernel
theorem dX7_whyNot_23 : decode cX7_whyNot 23 = .ok (.if_icmp .ne 17, 3) := by decide +kernel
theorem dX7_whyNot_26 : decode cX7_whyNot 26 = .ok (.aload_n 0, 1) := by decide +kernel
theorem dX7_whyNot_27 : decode cX7_whyNot 27 = .ok (.iload_n 2, 1) := by decide +kernel
theorem dX7_whyNot_28 : decode cX7_whyNot 28 = .ok (.invokevirtual 67, 3) := by decide +kernel
theorem dX7_whyNot_31 : decode cX7_whyNot 31 = .ok (.bipush (-5), 2) := by decide +kernel
theorem dX7_whyNot_33 : decode cX7_whyNot 33 = .ok (.if_icmp .ne 7, 3) := by decide +kernel
theorem dX7_whyNot_36 : decode cX7_whyNot 36 = .ok (.iconst (-1), 1) := by decide +kernel
theorem dX7_whyNot_37 : decode cX7_whyNot 37 = .ok (.goto 4, 3) := by decide +kernel
theorem dX7_whyNot_40 : decode cX7_whyNot 40 = .ok (.iconst 0, 1) := by decide +kernel
theorem dX7_whyNot_41 : decode cX7_whyNot 41 = .ok (.ireturn, 1) := by decide +kernel
theorem dX7_carryOut_0 : decode cX7_carryOut 0 = .ok (.iload_n 1, 1) := by decide +kernel
theorem dX7_carryOut_1 : decode cX7_carryOut 1 = .ok (.lookupswitch 100 #[(43, 51), (45, 59), (97, 85), (102, 92), (122, 71)], 51) := by decide +kernel
theorem dX7_carryOut_52 : decode cX7_carryOut 52 = .ok (.aload_n 0, 1) := by decide +kernel
theorem dX7_carryOut_53 : decode cX7_carryOut 53 = .ok (.iload_n 2, 1) := by decide +kernel
theorem dX7_carryOut_54 : decode cX7_carryOut 54 = .ok (.invokevirtual 78, 3) := by decide +kernel
theorem dX7_carryOut_57 : decode cX7_carryOut 57 = .ok (.goto 59, 3) := by decide +kernel
theorem dX7_carryOut_60 : decode cX7_carryOut 60 = .ok (.aload_n 0, 1) := by decide +kernel
theorem dX7_carryOut_61 : decode cX7_carryOut 61 = .ok (.aload_n 0, 1) := by decide +kernel
theorem dX7_carryOut_62 : decode cX7_carryOut 62 = .ok (.iload_n 2, 1) := by decide +kernel
theorem dX7_carryOut_63 : decode cX7_carryOut 63 = .ok (.invokevirtual 67, 3) := by decide +kernel
theorem dX7_carryOut_66 : decode cX7_carryOut 66 = .ok (.invokevirtual 82, 3) := by decide +kernel
theorem dX7_carryOut_69 : decode cX7_carryOut 69 = .ok (.goto 47, 3) := by decide +kernel
theorem dX7_carryOut_72 : decode cX7_carryOut 72 = .ok (.aload_n 0, 1) := by decide +kernel
theorem dX7_carryOut_73 : decode cX7_carryOut 73 = .ok (.aload_n 0, 1) := by decide +kernel
theorem dX7_carryOut_74 : decode cX7_carryOut 74 = .ok (.iload_n 2, 1) := by decide +kernel
theorem dX7_carryOut_75 : decode cX7_carryOut 75 = .ok (.invokevirtual 67, 3) := by decide +kernel
theorem dX7_carryOut_78 : decode cX7_carryOut 78 = .ok (.iconst 1, 1) := by decide +kernel
theorem dX7_carryOut_79 : decode cX7_carryOut 79 = .ok (.iconst 0, 1) := by decide +kernel
theorem dX7_carryOut_80 : decode cX7_carryOut 80 = .ok (.invokevirtual 71, 3) := by decide +kernel
theorem dX7_carryOut_83 : decode cX7_carryOut 83 = .ok (.goto 33, 3) := by decide +kernel
theorem dX7_carryOut_86 : decode cX7_carryOut 86 = .ok (.aload_n 0, 1) := by decide +kernel
theorem dX7_carryOut_87 : decode cX7_carryOut 87 = .ok (.invokevirtual 89, 3) := by decide +kernel
theorem dX7_carryOut_90 : decode cX7_carryOut 90 = .ok (.goto 26, 3) := by decide +kernel
theorem dX7_carryOut_93 : decode cX7_carryOut 93 = .ok (.aload_n 0, 1) := by decide +kernel
theorem dX7_carryOut_94 : decode cX7_carryOut 94 = .ok (.iload_n 2, 1) := by decide +kernel
theorem dX7_carryOut_95 : decode cX7_carryOut 95 = .ok (.invokevirtual 153, 3) := by decide +kernel
theorem dX7_carryOut_98 : decode cX7_carryOut 98 = .ok (.goto 18, 3) := by decide +kernel
theorem dX7_carryOut_101 : decode cX7_carryOut 101 = .ok (.aload_n 0, 1) := by decide +kernel
theorem dX7_carryOut_102 : decode cX7_carryOut 102 = .ok (.iload_n 1, 1) := by decide +kernel
theorem dX7_carryOut_103 : decode cX7_carryOut 103 = .ok (.bipush 118, 2) := by decide +kernel
theorem dX7_carryOut_105 : decode cX7_carryOut 105 = .ok (.if_icmp .ne 7, 3) := by decide +kernel
theorem dX7_carryOut_108 : decode cX7_carryOut 108 = .ok (.iconst 1, 1) := by decide +kernel
theorem dX7_carryOut_109 : decode cX7_carryOut 109 = .ok (.goto 4, 3) := by decide +kernel
theorem dX7_carryOut_112 : decode cX7_carryOut 112 = .ok (.iconst 0, 1) := by decide +kernel
theorem dX7_carryOut_113 : decode cX7_carryOut 113 = .ok (.invokevirtual 135, 3) := by decide +kernel
theorem dX7_carryOut_116 : decode cX7_carryOut 116 = .ok (.return_, 1) := by decide +kernel
theorem dX7_perform_0 : decode cX7_perform 0 = .ok (.aload_n 0, 1) := by decide +kernel
theorem dX7_perform_1 : decode cX7_perform 1 = .ok (.invokevirtual 185, 3) := by decide +kernel
theorem dX7_perform_4 : decode cX7_perform 4 = .ok (.ifCond .ne 11, 3) := by decide +kernel
theorem dX7_perform_7 : decode cX7_perform 7 = .ok (.bipush (-100), 2) := by decide +kernel
theorem dX7_perform_9 : decode cX7_perform 9 = .ok (.aload_n 0, 1) := by decide +kernel
theorem dX7_perform_10 : decode cX7_perform 10 = .ok (.getfield 166, 3) := by decide +kernel
theorem dX7_perform_13 : decode cX7_perform 13 = .ok (.isub, 1) := by decide +kernel
theorem dX7_perform_14 : decode cX7_perform 14 = .ok (.ireturn, 1) := by decide +kernel
theorem dX7_perform_15 : decode cX7_perform 15 = .ok (.aload_n 0, 1) := by decide +kernel
theorem dX7_perform_16 : decode cX7_perform 16 = .ok (.getfield 7, 3) := by decide +kernel
theorem dX7_perform_19 : decode cX7_perform 19 = .ok (.iconst 0, 1) := by decide +kernel
theorem dX7_perform_20 : decode cX7_perform 20 = .ok (.aload_n 0, 1) := by decide +kernel
theorem dX7_perform_21 : decode cX7_perform 21 = .ok (.getfield 13, 3) := by decide +kernel
theorem dX7_perform_24 : decode cX7_perform 24 = .ok (.iconst 0, 1) := by decide +kernel
theorem dX7_perform_25 : decode cX7_perform 25 = .ok (.invokestatic 48, 3) := by decide +kernel
theorem dX7_perform_28 : decode cX7_perform 28 = .ok (.iconst 0, 1) := by decide +kernel
theorem dX7_perform_29 : decode cX7_perform 29 = .ok (.istore_n 1, 1) := by decide +kernel
theorem dX7_perform_30 : decode cX7_perform 30 = .ok (.iload_n 1, 1) := by decide +kernel
theorem dX7_perform_31 : decode cX7_perform 31 = .ok (.aload_n 0, 1) := by decide +kernel
theorem dX7_perform_32 : decode cX7_perform 32 = .ok (.getfield 175, 3) := by decide +kernel
theorem dX7_perform_35 : decode cX7_perform 35 = .ok (.if_icmp .ge 61, 3) := by decide +kernel
theorem dX7_perform_38 : decode cX7_perform 38 = .ok (.aload_n 0, 1) := by decide +kernel
theorem dX7_perform_39 : decode cX7_perform 39 = .ok (.aload_n 0, 1) := by decide +kernel
theorem dX7_perform_40 : decode cX7_perform 40 = .ok (.getfield 34, 3) := by decide +kernel
theorem dX7_perform_43 : decode cX7_perform 43 = .ok (.iload_n 1, 1) := by decide +kernel
theorem dX7_perform_44 : decode cX7_perform 44 = .ok (.iaload, 1) := by decide +kernel
theorem dX7_perform_45 : decode cX7_perform 45 = .ok (.aload_n 0, 1) := by decide +kernel
theorem dX7_perform_46 : decode cX7_perform 46 = .ok (.getfield 37, 3) := by decide +kernel
theorem dX7_perform_49 : decode cX7_perform 49 = .ok (.iload_n 1, 1) := by decide +kernel
theorem dX7_perform_50 : decode cX7_perform 50 = .ok (.iaload, 1) := by decide +kernel
theorem dX7_perform_51 : decode cX7_perform 51 = .ok (.invokevirtual 188, 3) := by decide +kernel
theorem dX7_perform_54 : decode cX7_perform 54 = .ok (.istore_n 2, 1) := by decide +kernel
theorem dX7_perform_55 : decode cX7_perform 55 = .ok (.iload_n 2, 1) := by decide +kernel
theorem dX7_perform_56 : decode cX7_perform 56 = .ok (.ifCond .ge 18, 3) := by decide +kernel
theorem dX7_perform_59 : decode cX7_perform 59 = .ok (.aload_n 0, 1) := by decide +kernel
theorem dX7_perform_60 : decode cX7_perform 60 = .ok (.getfield 13, 3) := by decide +kernel
theorem dX7_perform_63 : decode cX7_perform 63 = .ok (.iconst 0, 1) := by decide +kernel
theorem dX7_perform_64 : decode cX7_perform 64 = .ok (.aload_n 0, 1) := by decide +kernel
theorem dX7_perform_65 : decode cX7_perform 65 = .ok (.getfield 7, 3) := by decide +kernel
theorem dX7_perform_68 : decode cX7_perform 68 = .ok (.iconst 0, 1) := by decide +kernel
theorem dX7_perform_69 : decode cX7_perform 69 = .ok (.invokestatic 48, 3) := by decide +kernel
theorem dX7_perform_72 : decode cX7_perform 72 = .ok (.iload_n 2, 1) := by decide +kernel
theorem dX7_perform_73 : decode cX7_perform 73 = .ok (.ireturn, 1) := by decide +kernel
theorem dX7_perform_74 : decode cX7_perform 74 = .ok (.aload_n 0, 1) := by decide +kernel
theorem dX7_perform_75 : decode cX7_perform 75 = .ok (.aload_n 0, 1) := by decide +kernel
theorem dX7_perform_76 : decode cX7_perform 76 = .ok (.getfield 34, 3) := by decide +kernel
theorem dX7_perform_79 : decode cX7_perform 79 = .ok (.iload_n 1, 1) := by decide +kernel
theorem dX7_perform_80 : decode cX7_perform 80 = .ok (.iaload, 1) := by decide +kernel
theorem dX7_perform_81 : decode cX7_perform 81 = .ok (.aload_n 0, 1) := by decide +kernel
theorem dX7_perform_82 : decode cX7_perform 82 = .ok (.getfield 37, 3) := by decide +kernel
theorem dX7_perform_85 : decode cX7_perform 85 = .ok (.iload_n 1, 1) := by decide +kernel
theorem dX7_perform_86 : decode cX7_perform 86 = .ok (.iaload, 1) := by decide +kernel
theorem dX7_perform_87 : decode cX7_perform 87 = .ok (.invokevirtual 191, 3) := by decide +kernel
theorem dX7_perform_90 : decode cX7_perform 90 = .ok (.iinc 1 1, 3) := by decide +kernel
theorem dX7_perform_93 : decode cX7_perform 93 = .ok (.goto (-63), 3) := by decide +kernel
theorem dX7_perform_96 : decode cX7_perform 96 = .ok (.aload_n 0, 1) := by decide +kernel
theorem dX7_perform_97 : decode cX7_perform 97 = .ok (.aload_n 0, 1) := by decide +kernel
theorem dX7_perform_98 : decode cX7_perform 98 = .ok (.getfield 13, 3) := by decide +kernel
theorem dX7_perform_101 : decode cX7_perform 101 = .ok (.invokevirtual 52, 3) := by decide +kernel
theorem dX7_perform_104 : decode cX7_perform 104 = .ok (.aload_n 0, 1) := by decide +kernel
theorem dX7_perform_105 : decode cX7_perform 105 = .ok (.getfield 175, 3) := by decide +kernel
theorem dX7_perform_108 : decode cX7_perform 108 = .ok (.ireturn, 1) := by decide +kernel
theorem dX7_card_0 : decode cX7_card 0 = .ok (.iload_n 1, 1) := by decide +kernel
theorem dX7_card_1 : decode cX7_card 1 = .ok (.ifCond .ge 8, 3) := by decide +kernel
theorem dX7_card_4 : decode cX7_card 4 = .ok (.bipush (-2), 2) := by decide +kernel
theorem dX7_card_6 : decode cX7_card 6 = .ok (.goto 24, 3) := by decide +kernel
theorem dX7_card_9 : decode cX7_card 9 = .ok (.iload_n 1, 1) := by decide +kernel
theorem dX7_card_10 : decode cX7_card 10 = .ok (.aload_n 0, 1) := by decide +kernel
theorem dX7_card_11 : decode cX7_card 11 = .ok (.getfield 7, 3) := by decide +kernel
theorem dX7_card_14 : decode cX7_card 14 = .ok (.iconst 0, 1) := by decide +kernel
theorem dX7_card_15 : decode cX7_card 15 = .ok (.iaload, 1) := by decide +kernel
theorem dX7_card_16 : decode cX7_card 16 = .ok (.if_icmp .ge 12, 3) := by decide +kernel
theorem dX7_card_19 : decode cX7_card 19 = .ok (.aload_n 0, 1) := by decide +kernel
theorem dX7_card_20 : decode cX7_card 20 = .ok (.iload_n 1, 1) := by decide +kernel
theorem dX7_card_21 : decode cX7_card 21 = .ok (.iconst 0, 1) := by decide +kernel
theorem dX7_card_22 : decode cX7_card 22 = .ok (.invokevirtual 40, 3) := by decide +kernel
theorem dX7_card_25 : decode cX7_card 25 = .ok (.goto 5, 3) := by decide +kernel
theorem dX7_card_28 : decode cX7_card 28 = .ok (.bipush (-5), 2) := by decide +kernel
theorem dX7_card_30 : decode cX7_card 30 = .ok (.ireturn, 1) := by decide +kernel
theorem dX7_shares_0 : decode cX7_shares 0 = .ok (.bipush (-5), 2) := by decide +kernel
theorem dX7_shares_2 : decode cX7_shares 2 = .ok (.istore_n 2, 1) := by decide +kernel
theorem dX7_shares_3 : decode cX7_shares 3 = .ok (.iconst 0, 1) := by decide +kernel
theorem dX7_shares_4 : decode cX7_shares 4 = .ok (.istore_n 3, 1) := by decide +kernel
theorem dX7_shares_5 : decode cX7_shares 5 = .ok (.iload_n 3, 1) := by decide +kernel
theorem dX7_shares_6 : decode cX7_shares 6 = .ok (.aload_n 0, 1) := by decide +kernel
theorem dX7_shares_7 : decode cX7_shares 7 = .ok (.getfield 7, 3) := by decide +kernel
theorem dX7_shares_10 : decode cX7_shares 10 = .ok (.iconst 0, 1) := by decide +kernel
theorem dX7_shares_11 : decode cX7_shares 11 = .ok (.iaload, 1) := by decide +kernel
theorem dX7_shares_12 : decode cX7_shares 12 = .ok (.if_icmp .ge 69, 3) := by decide +kernel
theorem dX7_shares_15 : decode cX7_shares 15 = .ok (.iconst 0, 1) := by decide +kernel
theorem dX7_shares_16 : decode cX7_shares 16 = .ok (.istore 4, 2) := by decide +kernel
theorem dX7_shares_18 : decode cX7_shares 18 = .ok (.iload_n 3, 1) := by decide +kernel
theorem dX7_shares_19 : decode cX7_shares 19 = .ok (.iload_n 1, 1) := by decide +kernel
theorem dX7_shares_20 : decode cX7_shares 20 = .ok (.if_icmp .eq 37, 3) := by decide +kernel
theorem dX7_shares_23 : decode cX7_shares 23 = .ok (.aload_n 0, 1) := by decide +kernel
theorem dX7_shares_24 : decode cX7_shares 24 = .ok (.iload_n 3, 1) := by decide +kernel
theorem dX7_shares_25 : decode cX7_shares 25 = .ok (.iconst 0, 1) := by decide +kernel
theorem dX7_shares_26 : decode cX7_shares 26 = .ok (.invokevirtual 40, 3) := by decide +kernel
theorem dX7_shares_29 : decode cX7_shares 29 = .ok (.iload 4, 2) := by decide +kernel
theorem dX7_shares_31 : decode cX7_shares 31 = .ok (.iconst 1, 1) := by decide +kernel
theorem dX7_shares_32 : decode cX7_shares 32 = .ok (.iadd, 1) := by decide +kernel
theorem dX7_shares_33 : decode cX7_shares 33 = .ok (.aload_n 0, 1) := by decide +kernel
theorem dX7_shares_34 : decode cX7_shares 34 = .ok (.iload_n 1, 1) := by decide +kernel
theorem dX7_shares_35 : decode cX7_shares 35 = .ok (.iconst 0, 1) := by decide +kernel
theorem dX7_shares_36 : decode cX7_shares 36 = .ok (.invokevirtual 40, 3) := by decide +kernel
theorem dX7_shares_39 : decode cX7_shares 39 = .ok (.bipush 7, 2) := by decide +kernel
theorem dX7_shares_41 : decode cX7_shares 41 = .ok (.iload 4, 2) := by decide +kernel
theorem dX7_shares_43 : decode cX7_shares 43 = .ok (.isub, 1) := by decide +kernel
theorem dX7_shares_44 : decode cX7_shares 44 = .ok (.ishr, 1) := by decide +kernel
theorem dX7_shares_45 : decode cX7_shares 45 = .ok (.invokestatic 116, 3) := by decide +kernel
theorem dX7_shares_48 : decode cX7_shares 48 = .ok (.ifCond .eq 9, 3) := by decide +kernel
theorem dX7_shares_51 : decode cX7_shares 51 = .ok (.iinc 4 1, 3) := by decide +kernel
theorem dX7_shares_54 : decode cX7_shares 54 = .ok (.goto (-36), 3) := by decide +kernel
theorem dX7_shares_57 : decode cX7_shares 57 = .ok (.iload_n 3, 1) := by decide +kernel
theorem dX7_shares_58 : decode cX7_shares 58 = .ok (.iload_n 1, 1) := by decide +kernel
theorem dX7_shares_59 : decode cX7_shares 59 = .ok (.if_icmp .eq 14, 3) := by decide +kernel
theorem dX7_shares_62 : decode cX7_shares 62 = .ok (.iload 4, 2) := by decide +kernel
theorem dX7_shares_64 : decode cX7_shares 64 = .ok (.iload_n 2, 1) := by decide +kernel
theorem dX7_shares_65 : decode cX7_shares 65 = .ok (.if_icmp .le 8, 3) := by decide +kernel
theorem dX7_shares_68 : decode cX7_shares 68 = .ok (.iload 4, 2) := by decide +kernel
theorem dX7_shares_70 : decode cX7_shares 70 = .ok (.goto 4, 3) := by decide +kernel
theorem dX7_shares_73 : decode cX7_shares 73 = .ok (.iload_n 2, 1) := by decide +kernel
theorem dX7_shares_74 : decode cX7_shares 74 = .ok (.istore_n 2, 1) := by decide +kernel
theorem dX7_shares_75 : decode cX7_shares 75 = .ok (.iinc 3 1, 3) := by decide +kernel
theorem dX7_shares_78 : decode cX7_shares 78 = .ok (.goto (-73), 3) := by decide +kernel
theorem dX7_shares_81 : decode cX7_shares 81 = .ok (.iload_n 2, 1) := by decide +kernel
theorem dX7_shares_82 : decode cX7_shares 82 = .ok (.ireturn, 1) := by decide +kernel
theorem dX7_ofCard_0 : decode cX7_ofCard 0 = .ok (.aload_n 0, 1) := by decide +kernel
theorem dX7_ofCard_1 : decode cX7_ofCard 1 = .ok (.iload_n 1, 1) := by decide +kernel
theorem dX7_ofCard_2 : decode cX7_ofCard 2 = .ok (.invokevirtual 67, 3) := by decide +kernel
theorem dX7_ofCard_5 : decode cX7_ofCard 5 = .ok (.istore_n 3, 1) := by decide +kernel
theorem dX7_ofCard_6 : decode cX7_ofCard 6 = .ok (.iload_n 3, 1) := by decide +kernel
theorem dX7_ofCard_7 : decode cX7_ofCard 7 = .ok (.bipush (-5), 2) := by decide +kernel
theorem dX7_ofCard_9 : decode cX7_ofCard 9 = .ok (.if_icmp .ne 5, 3) := by decide +kernel
theorem dX7_ofCard_12 : decode cX7_ofCard 12 = .ok (.iconst (-1), 1) := by decide +kernel
theorem dX7_ofCard_13 : decode cX7_ofCard 13 = .ok (.ireturn, 1) := by decide +kernel
theorem dX7_ofCard_14 : decode cX7_ofCard 14 = .ok (.iload_n 2, 1) := by decide +kernel
theorem dX7_ofCard_15 : decode cX7_ofCard 15 = .ok (.iconst 0, 1) := by decide +kernel
theorem dX7_ofCard_16 : decode cX7_ofCard 16 = .ok (.iconst 3, 1) := by decide +kernel
theorem dX7_ofCard_17 : decode cX7_ofCard 17 = .ok (.invokestatic 63, 3) := by decide +kernel
theorem dX7_ofCard_20 : decode cX7_ofCard 20 = .ok (.ifCond .ne 6, 3) := by decide +kernel
theorem dX7_ofCard_23 : decode cX7_ofCard 23 = .ok (.bipush (-2), 2) := by decide +kernel
theorem dX7_ofCard_25 : decode cX7_ofCard 25 = .ok (.ireturn, 1) := by decide +kernel
theorem dX7_ofCard_26 : decode cX7_ofCard 26 = .ok (.iload_n 2, 1) := by decide +kernel
theorem dX7_ofCard_27 : decode cX7_ofCard 27 = .ok (.iconst 3, 1) := by decide +kernel
theorem dX7_ofCard_28 : decode cX7_ofCard 28 = .ok (.if_icmp .ne 11, 3) := by decide +kernel
theorem dX7_ofCard_31 : decode cX7_ofCard 31 = .ok (.aload_n 0, 1) := by decide +kernel
theorem dX7_ofCard_32 : decode cX7_ofCard 32 = .ok (.iload_n 3, 1) := by decide +kernel
theorem dX7_ofCard_33 : decode cX7_ofCard 33 = .ok (.invokevirtual 195, 3) := by decide +kernel
theorem dX7_ofCard_36 : decode cX7_ofCard 36 = .ok (.goto 11, 3) := by decide +kernel
theorem dX7_ofCard_39 : decode cX7_ofCard 39 = .ok (.aload_n 0, 1) := by decide +kernel
theorem dX7_ofCard_40 : decode cX7_ofCard 40 = .ok (.iload_n 3, 1) := by decide +kernel
theorem dX7_ofCard_41 : decode cX7_ofCard 41 = .ok (.iconst 1, 1) := by decide +kernel
theorem dX7_ofCard_42 : decode cX7_ofCard 42 = .ok (.iload_n 2, 1) := by decide +kernel
theorem dX7_ofCard_43 : decode cX7_ofCard 43 = .ok (.iadd, 1) := by decide +kernel
theorem dX7_ofCard_44 : decode cX7_ofCard 44 = .ok (.invokevirtual 40, 3) := by decide +kernel
theorem dX7_ofCard_47 : decode cX7_ofCard 47 = .ok (.ireturn, 1) := by decide +kernel
theorem dX7_told_0 : decode cX7_told 0 = .ok (.iload_n 1, 1) := by decide +kernel
theorem dX7_told_1 : decode cX7_told 1 = .ok (.ifCond .ge 8, 3) := by decide +kernel
theorem dX7_told_4 : decode cX7_told 4 = .ok (.bipush (-2), 2) := by decide +kernel
theorem dX7_told_6 : decode cX7_told 6 = .ok (.goto 27, 3) := by decide +kernel
theorem dX7_told_9 : decode cX7_told 9 = .ok (.iload_n 1, 1) := by decide +kernel
theorem dX7_told_10 : decode cX7_told 10 = .ok (.aload_n 0, 1) := by decide +kernel
theorem dX7_told_11 : decode cX7_told 11 = .ok (.getfield 7, 3) := by decide +kernel
theorem dX7_told_14 : decode cX7_told 14 = .ok (.iconst 1, 1) := by decide +kernel
theorem dX7_told_15 : decode cX7_told 15 = .ok (.iaload, 1) := by decide +kernel
theorem dX7_told_16 : decode cX7_told 16 = .ok (.if_icmp .ge 15, 3) := by decide +kernel
theorem dX7_told_19 : decode cX7_told 19 = .ok (.aload_n 0, 1) := by decide +kernel
theorem dX7_told_20 : decode cX7_told 20 = .ok (.getfield 7, 3) := by decide +kernel
theorem dX7_told_23 : decode cX7_told 23 = .ok (.bipush 93, 2) := by decide +kernel
theorem dX7_told_25 : decode cX7_told 25 = .ok (.iload_n 1, 1) := by decide +kernel
theorem dX7_told_26 : decode cX7_told 26 = .ok (.iadd, 1) := by decide +kernel
theorem dX7_told_27 : decode cX7_told 27 = .ok (.iaload, 1) := by decide +kernel
theorem dX7_told_28 : decode cX7_told 28 = .ok (.goto 5, 3) := by decide +kernel
theorem dX7_told_31 : decode cX7_told 31 = .ok (.bipush (-5), 2) := by decide +kernel
theorem dX7_told_33 : decode cX7_told 33 = .ok (.ireturn, 1) := by decide +kernel
theorem dX7_leaving_0 : decode cX7_leaving 0 = .ok (.iconst 0, 1) := by decide +kernel
theorem dX7_leaving_1 : decode cX7_leaving 1 = .ok (.istore_n 1, 1) := by decide +kernel
theorem dX7_leaving_2 : decode cX7_leaving 2 = .ok (.iconst 0, 1) := by decide +kernel
theorem dX7_leaving_3 : decode cX7_leaving 3 = .ok (.istore_n 2, 1) := by decide +kernel
theorem dX7_leaving_4 : decode cX7_leaving 4 = .ok (.iload_n 2, 1) := by decide +kernel
theorem dX7_leaving_5 : decode cX7_leaving 5 = .ok (.aload_n 0, 1) := by decide +kernel
theorem dX7_leaving_6 : decode cX7_leaving 6 = .ok (.getfield 7, 3) := by decide +kernel
theorem dX7_leaving_9 : decode cX7_leaving 9 = .ok (.iconst 0, 1) := by decide +kernel
theorem dX7_leaving_10 : decode cX7_leaving 10 = .ok (.iaload, 1) := by decide +kernel
theorem dX7_leaving_11 : decode cX7_leaving 11 = .ok (.if_icmp .ge 26, 3) := by decide +kernel
theorem dX7_leaving_14 : decode cX7_leaving 14 = .ok (.iload_n 1, 1) := by decide +kernel
theorem dX7_leaving_15 : decode cX7_leaving 15 = .ok (.aload_n 0, 1) := by decide +kernel
theorem dX7_leaving_16 : decode cX7_leaving 16 = .ok (.iload_n 2, 1) := by decide +kernel
theorem dX7_leaving_17 : decode cX7_leaving 17 = .ok (.iconst 2, 1) := by decide +kernel
theorem dX7_leaving_18 : decode cX7_leaving 18 = .ok (.invokevirtual 40, 3) := by decide +kernel
theorem dX7_leaving_21 : decode cX7_leaving 21 = .ok (.ifCond .le 7, 3) := by decide +kernel
theorem dX7_leaving_24 : decode cX7_leaving 24 = .ok (.iconst 1, 1) := by decide +kernel
theorem dX7_leaving_25 : decode cX7_leaving 25 = .ok (.goto 4, 3) := by decide +kernel
theorem dX7_leaving_28 : decode cX7_leaving 28 = .ok (.iconst 0, 1) := by decide +kernel
theorem dX7_leaving_29 : decode cX7_leaving 29 = .ok (.iadd, 1) := by decide +kernel
theorem dX7_leaving_30 : decode cX7_leaving 30 = .ok (.istore_n 1, 1) := by decide +kernel
theorem dX7_leaving_31 : decode cX7_leaving 31 = .ok (.iinc 2 1, 3) := by decide +kernel
theorem dX7_leaving_34 : decode cX7_leaving 34 = .ok (.goto (-30), 3) := by decide +kernel
theorem dX7_leaving_37 : decode cX7_leaving 37 = .ok (.iload_n 1, 1) := by decide +kernel
theorem dX7_leaving_38 : decode cX7_leaving 38 = .ok (.ireturn, 1) := by decide +kernel
theorem dX7_total_0 : decode cX7_total 0 = .ok (.iload_n 1, 1) := by decide +kernel
theorem dX7_total_1 : decode cX7_total 1 = .ok (.tableswitch 155 0 16 #[83, 90, 95, 100, 107, 107, 107, 107, 107, 107, 107, 118, 118, 130, 137, 145, 150], 83) := by decide +kernel
theorem dX7_total_84 : decode cX7_total 84 = .ok (.aload_n 0, 1) := by decide +kernel
theorem dX7_total_85 : decode cX7_total 85 = .ok (.getfield 7, 3) := by decide +kernel
theorem dX7_total_88 : decode cX7_total 88 = .ok (.iconst 0, 1) := by decide +kernel
theorem dX7_total_89 : decode cX7_total 89 = .ok (.iaload, 1) := by decide +kernel
theorem dX7_total_90 : decode cX7_total 90 = .ok (.ireturn, 1) := by decide +kernel
theorem dX7_total_91 : decode cX7_total 91 = .ok (.aload_n 0, 1) := by decide +kernel
theorem dX7_total_92 : decode cX7_total 92 = .ok (.invokevirtual 85, 3) := by decide +kernel
theorem dX7_total_95 : decode cX7_total 95 = .ok (.ireturn, 1) := by decide +kernel
theorem dX7_total_96 : decode cX7_total 96 = .ok (.aload_n 0, 1) := by decide +kernel
theorem dX7_total_97 : decode cX7_total 97 = .ok (.invokevirtual 198, 3) := by decide +kernel
theorem dX7_total_100 : decode cX7_total 100 = .ok (.ireturn, 1) := by decide +kernel
theorem dX7_total_101 : decode cX7_total 101 = .ok (.aload_n 0, 1) := by decide +kernel
theorem dX7_total_102 : decode cX7_total 102 = .ok (.getfield 7, 3) := by decide +kernel
theorem dX7_total_105 : decode cX7_total 105 = .ok (.iconst 1, 1) := by decide +kernel
theorem dX7_total_106 : decode cX7_total 106 = .ok (.iaload, 1) := by decide +kernel
theorem dX7_total_107 : decode cX7_total 107 = .ok (.ireturn, 1) := by decide +kernel
theorem dX7_total_108 : decode cX7_total 108 = .ok (.aload_n 0, 1) := by decide +kernel
theorem dX7_total_109 : decode cX7_total 109 = .ok (.getfield 7, 3) := by decide +kernel
theorem dX7_total_112 : decode cX7_total 112 = .ok (.iconst 5, 1) := by decide +kernel
theorem dX7_total_113 : decode cX7_total 113 = .ok (.iload_n 1, 1) := by decide +kernel
theorem dX7_total_114 : decode cX7_total 114 = .ok (.iadd, 1) := by decide +kernel
theorem dX7_total_115 : decode cX7_total 115 = .ok (.iconst 4, 1) := by decide +kernel
theorem dX7_total_116 : decode cX7_total 116 = .ok (.isub, 1) := by decide +kernel
theorem dX7_total_117 : decode cX7_total 117 = .ok (.iaload, 1) := by decide +kernel
theorem dX7_total_118 : decode cX7_total 118 = .ok (.ireturn, 1) := by decide +kernel
theorem dX7_total_119 : decode cX7_total 119 = .ok (.aload_n 0, 1) := by decide +kernel
theorem dX7_total_120 : decode cX7_total 120 = .ok (.getfield 7, 3) := by decide +kernel
theorem dX7_total_123 : decode cX7_total 123 = .ok (.iconst 2, 1) := by decide +kernel
theorem dX7_total_124 : decode cX7_total 124 = .ok (.iload_n 1, 1) := by decide +kernel
theorem dX7_total_125 : decode cX7_total 125 = .ok (.iadd, 1) := by decide +kernel
theorem dX7_total_126 : decode cX7_total 126 = .ok (.bipush 11, 2) := by decide +kernel
theorem dX7_total_128 : decode cX7_total 128 = .ok (.isub, 1) := by decide +kernel
theorem dX7_total_129 : decode cX7_total 129 = .ok (.iaload, 1) := by decide +kernel
theorem dX7_total_130 : decode cX7_total 130 = .ok (.ireturn, 1) := by decide +kernel
theorem dX7_total_131 : decode cX7_total 131 = .ok (.aload_n 0, 1) := by decide +kernel
theorem dX7_total_132 : decode cX7_total 132 = .ok (.getfield 7, 3) := by decide +kernel
theorem dX7_total_135 : decode cX7_total 135 = .ok (.iconst 4, 1) := by decide +kernel
theorem dX7_total_136 : decode cX7_total 136 = .ok (.iaload, 1) := by decide +kernel
theorem dX7_total_137 : decode cX7_total 137 = .ok (.ireturn, 1) := by decide +kernel
theorem dX7_total_138 : decode cX7_total 138 = .ok (.aload_n 0, 1) := by decide +kernel
theorem dX7_total_139 : decode cX7_total 139 = .ok (.getfield 7, 3) := by decide +kernel
theorem dX7_total_142 : decode cX7_total 142 = .ok (.bipush 12, 2) := by decide +kernel
theorem dX7_total_144 : decode cX7_total 144 = .ok (.iaload, 1) := by decide +kernel
theorem dX7_total_145 : decode cX7_total 145 = .ok (.ireturn, 1) := by decide +kernel
theorem dX7_total_146 : decode cX7_total 146 = .ok (.aload_n 0, 1) := by decide +kernel
theorem dX7_total_147 : decode cX7_total 147 = .ok (.getfield 44, 3) := by decide +kernel
theorem dX7_total_150 : decode cX7_total 150 = .ok (.ireturn, 1) := by decide +kernel
theorem dX7_total_151 : decode cX7_total 151 = .ok (.aload_n 0, 1) := by decide +kernel
theorem dX7_total_152 : decode cX7_total 152 = .ok (.getfield 163, 3) := by decide +kernel
theorem dX7_total_155 : decode cX7_total 155 = .ok (.ireturn, 1) := by decide +kernel
theorem dX7_total_156 : decode cX7_total 156 = .ok (.bipush (-2), 2) := by decide +kernel
theorem dX7_total_158 : decode cX7_total 158 = .ok (.ireturn, 1) := by decide +kernel
theorem dX7_withBeginning_0 : decode cX7_withBeginning 0 = .ok (.iconst 0, 1) := by decide +kernel
theorem dX7_withBeginning_1 : decode cX7_withBeginning 1 = .ok (.istore_n 3, 1) := by decide +kernel
theorem dX7_withBeginning_2 : decode cX7_withBeginning 2 = .ok (.iconst 0, 1) := by decide +kernel
theorem dX7_withBeginning_3 : decode cX7_withBeginning 3 = .ok (.istore 4, 2) := by decide +kernel
theorem dX7_withBeginning_5 : decode cX7_withBeginning 5 = .ok (.iload 4, 2) := by decide +kernel
theorem dX7_withBeginning_7 : decode cX7_withBeginning 7 = .ok (.aload_n 0, 1) := by decide +kernel
theorem dX7_withBeginning_8 : decode cX7_withBeginning 8 = .ok (.getfield 7, 3) := by decide +kernel
theorem dX7_withBeginning_11 : decode cX7_withBeginning 11 = .ok (.iconst 0, 1) := by decide +kernel
theorem dX7_withBeginning_12 : decode cX7_withBeginning 12 = .ok (.iaload, 1) := by decide +kernel
theorem dX7_withBeginning_13 : decode cX7_withBeginning 13 = .ok (.if_icmp .ge 43, 3) := by decide +kernel
theorem dX7_withBeginning_16 : decode cX7_withBeginning 16 = .ok (.iload_n 3, 1) := by decide +kernel
theorem dX7_withBeginning_17 : decode cX7_withBeginning 17 = .ok (.aload_n 0, 1) := by decide +kernel
theorem dX7_withBeginning_18 : decode cX7_withBeginning 18 = .ok (.iload 4, 2) := by decide +kernel
theorem dX7_withBeginning_20 : decode cX7_withBeginning 20 = .ok (.iconst 1, 1) := by decide +kernel
theorem dX7_withBeginning_21 : decode cX7_withBeginning 21 = .ok (.invokevirtual 40, 3) := by decide +kernel
theorem dX7_withBeginning_24 : decode cX7_withBeginning 24 = .ok (.iconst 1, 1) := by decide +kernel
theorem dX7_withBeginning_25 : decode cX7_withBeginning 25 = .ok (.if_icmp .ne 22, 3) := by decide +kernel
theorem dX7_withBeginning_28 : decode cX7_withBeginning 28 = .ok (.aload_n 0, 1) := by decide +kernel
theorem dX7_withBeginning_29 : decode cX7_withBeginning 29 = .ok (.iload 4, 2) := by decide +kernel
theorem dX7_withBeginning_31 : decode cX7_withBeginning 31 = .ok (.iconst 0, 1) := by decide +kernel
theorem dX7_withBeginning_32 : decode cX7_withBeginning 32 = .ok (.invokevirtual 40, 3) := by decide +kernel
theorem dX7_withBeginning_35 : decode cX7_withBeginning 35 = .ok (.iload_n 1, 1) := by decide +kernel
theorem dX7_withBeginning_36 : decode cX7_withBeginning 36 = .ok (.iload_n 2, 1) := by decide +kernel
theorem dX7_withBeginning_37 : decode cX7_withBeginning 37 = .ok (.invokestatic 116, 3) := by decide +kernel
theorem dX7_withBeginning_40 : decode cX7_withBeginning 40 = .ok (.ifCond .eq 7, 3) := by decide +kernel
theorem dX7_withBeginning_43 : decode cX7_withBeginning 43 = .ok (.iconst 1, 1) := by decide +kernel
theorem dX7_withBeginning_44 : decode cX7_withBeginning 44 = .ok (.goto 4, 3) := by decide +kernel
theorem dX7_withBeginning_47 : decode cX7_withBeginning 47 = .ok (.iconst 0, 1) := by decide +kernel
theorem dX7_withBeginning_48 : decode cX7_withBeginning 48 = .ok (.iadd, 1) := by decide +kernel
theorem dX7_withBeginning_49 : decode cX7_withBeginning 49 = .ok (.istore_n 3, 1) := by decide +kernel
theorem dX7_withBeginning_50 : decode cX7_withBeginning 50 = .ok (.iinc 4 1, 3) := by decide +kernel
theorem dX7_withBeginning_53 : decode cX7_withBeginning 53 = .ok (.goto (-48), 3) := by decide +kernel
theorem dX7_withBeginning_56 : decode cX7_withBeginning 56 = .ok (.iload_n 3, 1) := by decide +kernel
theorem dX7_withBeginning_57 : decode cX7_withBeginning 57 = .ok (.ireturn, 1) := by decide +kernel
theorem dX7_count_0 : decode cX7_count 0 = .ok (.iload_n 1, 1) := by decide +kernel
theorem dX7_count_1 : decode cX7_count 1 = .ok (.iload_n 2, 1) := by decide +kernel
theorem dX7_count_2 : decode cX7_count 2 = .ok (.invokestatic 125, 3) := by decide +kernel
theorem dX7_count_5 : decode cX7_count 5 = .ok (.ifCond .eq 12, 3) := by decide +kernel
theorem dX7_count_8 : decode cX7_count 8 = .ok (.aload_n 0, 1) := by decide +kernel
theorem dX7_count_9 : decode cX7_count 9 = .ok (.iload_n 1, 1) := by decide +kernel
theorem dX7_count_10 : decode cX7_count 10 = .ok (.iload_n 2, 1) := by decide +kernel
theorem dX7_count_11 : decode cX7_count 11 = .ok (.invokevirtual 201, 3) := by decide +kernel
theorem dX7_count_14 : decode cX7_count 14 = .ok (.goto 5, 3) := by decide +kernel
theorem dX7_count_17 : decode cX7_count 17 = .ok (.bipush (-2), 2) := by decide +kernel
theorem dX7_count_19 : decode cX7_count 19 = .ok (.ireturn, 1) := by decide +kernel
theorem dX7_walkTakes_0 : decode cX7_walkTakes 0 = .ok (.iload_n 2, 1) := by decide +kernel
theorem dX7_walkTakes_1 : decode cX7_walkTakes 1 = .ok (.iconst 0, 1) := by decide +kernel
theorem dX7_walkTakes_2 : decode cX7_walkTakes 2 = .ok (.iconst 4, 1) := by decide +kernel
theorem dX7_walkTakes_3 : decode cX7_walkTakes 3 = .ok (.invokestatic 63, 3) := by decide +kernel
theorem dX7_walkTakes_6 : decode cX7_walkTakes 6 = .ok (.ifCond .ne 6, 3) := by decide +kernel
theorem dX7_walkTakes_9 : decode cX7_walkTakes 9 = .ok (.bipush (-2), 2) := by decide +kernel
theorem dX7_walkTakes_11 : decode cX7_walkTakes 11 = .ok (.ireturn, 1) := by decide +kernel
theorem dX7_walkTakes_12 : decode cX7_walkTakes 12 = .ok (.aload_n 0, 1) := by decide +kernel
theorem dX7_walkTakes_13 : decode cX7_walkTakes 13 = .ok (.getfield 7, 3) := by decide +kernel
theorem dX7_walkTakes_16 : decode cX7_walkTakes 16 = .ok (.iconst 0, 1) := by decide +kernel
theorem dX7_walkTakes_17 : decode cX7_walkTakes 17 = .ok (.aload_n 0, 1) := by decide +kernel
theorem dX7_walkTakes_18 : decode cX7_walkTakes 18 = .ok (.getfield 13, 3) := by decide +kernel
theorem dX7_walkTakes_21 : decode cX7_walkTakes 21 = .ok (.iconst 0, 1) := by decide +kernel
theorem dX7_walkTakes_22 : decode cX7_walkTakes 22 = .ok (.invokestatic 48, 3) := by decide +kernel
theorem dX7_walkTakes_25 : decode cX7_walkTakes 25 = .ok (.aload_n 0, 1) := by decide +kernel
theorem dX7_walkTakes_26 : decode cX7_walkTakes 26 = .ok (.iload_n 1, 1) := by decide +kernel
theorem dX7_walkTakes_27 : decode cX7_walkTakes 27 = .ok (.invokevirtual 135, 3) := by decide +kernel
theorem dX7_walkTakes_30 : decode cX7_walkTakes 30 = .ok (.iload_n 2, 1) := by decide +kernel
theorem dX7_walkTakes_31 : decode cX7_walkTakes 31 = .ok (.ifCond .ne 7, 3) := by decide +kernel
theorem dX7_walkTakes_34 : decode cX7_walkTakes 34 = .ok (.iconst 5, 1) := by decide +kernel
theorem dX7_walkTakes_35 : decode cX7_walkTakes 35 = .ok (.goto 25, 3) := by decide +kernel
theorem dX7_walkTakes_38 : decode cX7_walkTakes 38 = .ok (.iload_n 2, 1) := by decide +kernel
theorem dX7_walkTakes_39 : decode cX7_walkTakes 39 = .ok (.iconst 1, 1) := by decide +kernel
theorem dX7_walkTakes_40 : decode cX7_walkTakes 40 = .ok (.if_icmp .ne 8, 3) := by decide +kernel
theorem dX7_walkTakes_43 : decode cX7_walkTakes 43 = .ok (.bipush 10, 2) := by decide +kernel
theorem dX7_walkTakes_45 : decode cX7_walkTakes 45 = .ok (.goto 15, 3) := by decide +kernel
theorem dX7_walkTakes_48 : decode cX7_walkTakes 48 = .ok (.iload_n 2, 1) := by decide +kernel
theorem dX7_walkTakes_49 : decode cX7_walkTakes 49 = .ok (.iconst 2, 1) := by decide +kernel
theorem dX7_walkTakes_50 : decode cX7_walkTakes 50 = .ok (.if_icmp .ne 8, 3) := by decide +kernel
theorem dX7_walkTakes_53 : decode cX7_walkTakes 53 = .ok (.bipush 8, 2) := by decide +kernel
theorem dX7_walkTakes_55 : decode cX7_walkTakes 55 = .ok (.goto 5, 3) := by decide +kernel
theorem dX7_walkTakes_58 : decode cX7_walkTakes 58 = .ok (.bipush 9, 2) := by decide +kernel
theorem dX7_walkTakes_60 : decode cX7_walkTakes 60 = .ok (.istore_n 3, 1) := by decide +kernel
theorem dX7_walkTakes_61 : decode cX7_walkTakes 61 = .ok (.aload_n 0, 1) := by decide +kernel
theorem dX7_walkTakes_62 : decode cX7_walkTakes 62 = .ok (.getfield 7, 3) := by decide +kernel
theorem dX7_walkTakes_65 : decode cX7_walkTakes 65 = .ok (.iload_n 3, 1) := by decide +kernel
theorem dX7_walkTakes_66 : decode cX7_walkTakes 66 = .ok (.iaload, 1) := by decide +kernel
theorem dX7_walkTakes_67 : decode cX7_walkTakes 67 = .ok (.aload_n 0, 1) := by decide +kernel
theorem dX7_walkTakes_68 : decode cX7_walkTakes 68 = .ok (.getfield 13, 3) := by decide +kernel
theorem dX7_walkTakes_71 : decode cX7_walkTakes 71 = .ok (.iload_n 3, 1) := by decide +kernel
theorem dX7_walkTakes_72 : decode cX7_walkTakes 72 = .ok (.iaload, 1) := by decide +kernel
theorem dX7_walkTakes_73 : decode cX7_walkTakes 73 = .ok (.isub, 1) := by decide +kernel
theorem dX7_walkTakes_74 : decode cX7_walkTakes 74 = .ok (.istore 4, 2) := by decide +kernel
theorem dX7_walkTakes_76 : decode cX7_walkTakes 76 = .ok (.aload_n 0, 1) := by decide +kernel
theorem dX7_walkTakes_77 : decode cX7_walkTakes 77 = .ok (.getfield 13, 3) := by decide +kernel
theorem dX7_walkTakes_80 : decode cX7_walkTakes 80 = .ok (.iconst 0, 1) := by decide +kernel
theorem dX7_walkTakes_81 : decode cX7_walkTakes 81 = .ok (.aload_n 0, 1) := by decide +kernel
theorem dX7_walkTakes_82 : decode cX7_walkTakes 82 = .ok (.getfield 7, 3) := by decide +kernel
theorem dX7_walkTakes_85 : decode cX7_walkTakes 85 = .ok (.iconst 0, 1) := by decide +kernel
theorem dX7_walkTakes_86 : decode cX7_walkTakes 86 = .ok (.invokestatic 48, 3) := by decide +kernel
theorem dX7_walkTakes_89 : decode cX7_walkTakes 89 = .ok (.iload_n 2, 1) := by decide +kernel
theorem dX7_walkTakes_90 : decode cX7_walkTakes 90 = .ok (.iconst 4, 1) := by decide +kernel
theorem dX7_walkTakes_91 : decode cX7_walkTakes 91 = .ok (.if_icmp .ne 10, 3) := by decide +kernel
theorem dX7_walkTakes_94 : decode cX7_walkTakes 94 = .ok (.aload_n 0, 1) := by decide +kernel
theorem dX7_walkTakes_95 : decode cX7_walkTakes 95 = .ok (.getfield 132, 3) := by decide +kernel
theorem dX7_walkTakes_98 : decode cX7_walkTakes 98 = .ok (.goto 5, 3) := by decide +kernel
theorem dX7_walkTakes_101 : decode cX7_walkTakes 101 = .ok (.iload 4, 2) := by decide +kernel
theorem dX7_walkTakes_103 : decode cX7_walkTakes 103 = .ok (.ireturn, 1) := by decide +kernel
theorem dX7_roundsTake_0 : decode cX7_roundsTake 0 = .ok (.iload_n 1, 1) := by decide +kernel
theorem dX7_roundsTake_1 : decode cX7_roundsTake 1 = .ok (.invokestatic 149, 3) := by decide +kernel
theorem dX7_roundsTake_4 : decode cX7_roundsTake 4 = .ok (.ifCond .eq 12, 3) := by decide +kernel
theorem dX7_roundsTake_7 : decode cX7_roundsTake 7 = .ok (.iload_n 2, 1) := by decide +kernel
theorem dX7_roundsTake_8 : decode cX7_roundsTake 8 = .ok (.iconst 0, 1) := by decide +kernel
theorem dX7_roundsTake_9 : decode cX7_roundsTake 9 = .ok (.iconst 4, 1) := by decide +kernel
theorem dX7_roundsTake_10 : decode cX7_roundsTake 10 = .ok (.invokestatic 63, 3) := by decide +kernel
theorem dX7_roundsTake_13 : decode cX7_roundsTake 13 = .ok (.ifCond .ne 6, 3) := by decide +kernel
theorem dX7_roundsTake_16 : decode cX7_roundsTake 16 = .ok (.bipush (-2), 2) := by decide +kernel
theorem dX7_roundsTake_18 : decode cX7_roundsTake 18 = .ok (.ireturn, 1) := by decide +kernel
theorem dX7_roundsTake_19 : decode cX7_roundsTake 19 = .ok (.aload_n 0, 1) := by decide +kernel
theorem dX7_roundsTake_20 : decode cX7_roundsTake 20 = .ok (.getfield 7, 3) := by decide +kernel
theorem dX7_roundsTake_23 : decode cX7_roundsTake 23 = .ok (.iconst 0, 1) := by decide +kernel
theorem dX7_roundsTake_24 : decode cX7_roundsTake 24 = .ok (.aload_n 0, 1) := by decide +kernel
theorem dX7_roundsTake_25 : decode cX7_roundsTake 25 = .ok (.getfield 13, 3) := by decide +kernel
theorem dX7_roundsTake_28 : decode cX7_roundsTake 28 = .ok (.iconst 0, 1) := by decide +kernel
theorem dX7_roundsTake_29 : decode cX7_roundsTake 29 = .ok (.invokestatic 48, 3) := by decide +kernel
theorem dX7_roundsTake_32 : decode cX7_roundsTake 32 = .ok (.aload_n 0, 1) := by decide +kernel
theorem dX7_roundsTake_33 : decode cX7_roundsTake 33 = .ok (.iload_n 1, 1) := by decide +kernel
theorem dX7_roundsTake_34 : decode cX7_roundsTake 34 = .ok (.invokevirtual 160, 3) := by decide +kernel
theorem dX7_roundsTake_37 : decode cX7_roundsTake 37 = .ok (.pop, 1) := by decide +kernel
theorem dX7_roundsTake_38 : decode cX7_roundsTake 38 = .ok (.iload_n 2, 1) := by decide +kernel
theorem dX7_roundsTake_39 : decode cX7_roundsTake 39 = .ok (.ifCond .ne 8, 3) := by decide +kernel
theorem dX7_roundsTake_42 : decode cX7_roundsTake 42 = .ok (.bipush 11, 2) := by decide +kernel
theorem dX7_roundsTake_44 : decode cX7_roundsTake 44 = .ok (.goto 35, 3) := by decide +kernel
theorem dX7_roundsTake_47 : decode cX7_roundsTake 47 = .ok (.iload_n 2, 1) := by decide +kernel
theorem dX7_roundsTake_48 : decode cX7_roundsTake 48 = .ok (.iconst 1, 1) := by decide +kernel
theorem dX7_roundsTake_49 : decode cX7_roundsTake 49 = .ok (.if_icmp .ne 8, 3) := by decide +kernel
theorem dX7_roundsTake_52 : decode cX7_roundsTake 52 = .ok (.bipush 10, 2) := by decide +kernel
theorem dX7_roundsTake_54 : decode cX7_roundsTake 54 = .ok (.goto 25, 3) := by decide +kernel
theorem dX7_roundsTake_57 : decode cX7_roundsTake 57 = .ok (.iload_n 2, 1) := by decide +kernel
theorem dX7_roundsTake_58 : decode cX7_roundsTake 58 = .ok (.iconst 2, 1) := by decide +kernel
theorem dX7_roundsTake_59 : decode cX7_roundsTake 59 = .ok (.if_icmp .ne 8, 3) := by decide +kernel
theorem dX7_roundsTake_62 : decode cX7_roundsTake 62 = .ok (.bipush 8, 2) := by decide +kernel
theorem dX7_roundsTake_64 : decode cX7_roundsTake 64 = .ok (.goto 15, 3) := by decide +kernel
theorem dX7_roundsTake_67 : decode cX7_roundsTake 67 = .ok (.iload_n 2, 1) := by decide +kernel
theorem dX7_roundsTake_68 : decode cX7_roundsTake 68 = .ok (.iconst 3, 1) := by decide +kernel
theorem dX7_roundsTake_69 : decode cX7_roundsTake 69 = .ok (.if_icmp .ne 8, 3) := by decide +kernel
theorem dX7_roundsTake_72 : decode cX7_roundsTake 72 = .ok (.bipush 9, 2) := by decide +kernel
theorem dX7_roundsTake_74 : decode cX7_roundsTake 74 = .ok (.goto 5, 3) := by decide +kernel
theorem dX7_roundsTake_77 : decode cX7_roundsTake 77 = .ok (.bipush 6, 2) := by decide +kernel
theorem dX7_roundsTake_79 : decode cX7_roundsTake 79 = .ok (.istore_n 3, 1) := by decide +kernel
theorem dX7_roundsTake_80 : decode cX7_roundsTake 80 = .ok (.aload_n 0, 1) := by decide +kernel
theorem dX7_roundsTake_81 : decode cX7_roundsTake 81 = .ok (.getfield 7, 3) := by decide +kernel
theorem dX7_roundsTake_84 : decode cX7_roundsTake 84 = .ok (.iload_n 3, 1) := by decide +kernel
theorem dX7_roundsTake_85 : decode cX7_roundsTake 85 = .ok (.iaload, 1) := by decide +kernel
theorem dX7_roundsTake_86 : decode cX7_roundsTake 86 = .ok (.aload_n 0, 1) := by decide +kernel
theorem dX7_roundsTake_87 : decode cX7_roundsTake 87 = .ok (.getfield 13, 3) := by decide +kernel
theorem dX7_roundsTake_90 : decode cX7_roundsTake 90 = .ok (.iload_n 3, 1) := by decide +kernel
theorem dX7_roundsTake_91 : decode cX7_roundsTake 91 = .ok (.iaload, 1) := by decide +kernel
theorem dX7_roundsTake_92 : decode cX7_roundsTake 92 = .ok (.isub, 1) := by decide +kernel
theorem dX7_roundsTake_93 : decode cX7_roundsTake 93 = .ok (.istore 4, 2) := by decide +kernel
theorem dX7_roundsTake_95 : decode cX7_roundsTake 95 = .ok (.aload_n 0, 1) := by decide +kernel
theorem dX7_roundsTake_96 : decode cX7_roundsTake 96 = .ok (.getfield 13, 3) := by decide +kernel
theorem dX7_roundsTake_99 : decode cX7_roundsTake 99 = .ok (.iconst 0, 1) := by decide +kernel
theorem dX7_roundsTake_100 : decode cX7_roundsTake 100 = .ok (.aload_n 0, 1) := by decide +kernel
theorem dX7_roundsTake_101 : decode cX7_roundsTake 101 = .ok (.getfield 7, 3) := by decide +kernel
theorem dX7_roundsTake_104 : decode cX7_roundsTake 104 = .ok (.iconst 0, 1) := by decide +kernel
theorem dX7_roundsTake_105 : decode cX7_roundsTake 105 = .ok (.invokestatic 48, 3) := by decide +kernel
theorem dX7_roundsTake_108 : decode cX7_roundsTake 108 = .ok (.iload 4, 2) := by decide +kernel
theorem dX7_roundsTake_110 : decode cX7_roundsTake 110 = .ok (.ireturn, 1) := by decide +kernel
theorem dX7_bestFrame_0 : decode cX7_bestFrame 0 = .ok (.iconst 0, 1) := by decide +kernel
theorem dX7_bestFrame_1 : decode cX7_bestFrame 1 = .ok (.istore_n 1, 1) := by decide +kernel
theorem dX7_bestFrame_2 : decode cX7_bestFrame 2 = .ok (.iconst (-1), 1) := by decide +kernel
theorem dX7_bestFrame_3 : decode cX7_bestFrame 3 = .ok (.istore_n 2, 1) := by decide +kernel
theorem dX7_bestFrame_4 : decode cX7_bestFrame 4 = .ok (.iconst 0, 1) := by decide +kernel
theorem dX7_bestFrame_5 : decode cX7_bestFrame 5 = .ok (.istore_n 3, 1) := by decide +kernel
theorem dX7_bestFrame_6 : decode cX7_bestFrame 6 = .ok (.aload_n 0, 1) := by decide +kernel
theorem dX7_bestFrame_7 : decode cX7_bestFrame 7 = .ok (.getfield 7, 3) := by decide +kernel
theorem dX7_bestFrame_10 : decode cX7_bestFrame 10 = .ok (.iconst 0, 1) := by decide +kernel
theorem dX7_bestFrame_11 : decode cX7_bestFrame 11 = .ok (.aload_n 0, 1) := by decide +kernel
theorem dX7_bestFrame_12 : decode cX7_bestFrame 12 = .ok (.getfield 13, 3) := by decide +kernel
theorem dX7_bestFrame_15 : decode cX7_bestFrame 15 = .ok (.iconst 0, 1) := by decide +kernel
theorem dX7_bestFrame_16 : decode cX7_bestFrame 16 = .ok (.invokestatic 48, 3) := by decide +kernel
theorem dX7_bestFrame_19 : decode cX7_bestFrame 19 = .ok (.iconst 1, 1) := by decide +kernel
theorem dX7_bestFrame_20 : decode cX7_bestFrame 20 = .ok (.istore 4, 2) := by decide +kernel
theorem dX7_bestFrame_22 : decode cX7_bestFrame 22 = .ok (.iload 4, 2) := by decide +kernel
theorem dX7_bestFrame_24 : decode cX7_bestFrame 24 = .ok (.bipush 64, 2) := by decide +kernel
theorem dX7_bestFrame_26 : decode cX7_bestFrame 26 = .ok (.if_icmp .gt 123, 3) := by decide +kernel
theorem dX7_bestFrame_29 : decode cX7_bestFrame 29 = .ok (.aload_n 0, 1) := by decide +kernel
theorem dX7_bestFrame_30 : decode cX7_bestFrame 30 = .ok (.iload 4, 2) := by decide +kernel
theorem dX7_bestFrame_32 : decode cX7_bestFrame 32 = .ok (.invokevirtual 153, 3) := by decide +kernel
theorem dX7_bestFrame_35 : decode cX7_bestFrame 35 = .ok (.aload_n 0, 1) := by decide +kernel
theorem dX7_bestFrame_36 : decode cX7_bestFrame 36 = .ok (.getfield 7, 3) := by decide +kernel
theorem dX7_bestFrame_39 : decode cX7_bestFrame 39 = .ok (.bipush 8, 2) := by decide +kernel
theorem dX7_bestFrame_41 : decode cX7_bestFrame 41 = .ok (.iaload, 1) := by decide +kernel
theorem dX7_bestFrame_42 : decode cX7_bestFrame 42 = .ok (.aload_n 0, 1) := by decide +kernel
theorem dX7_bestFrame_43 : decode cX7_bestFrame 43 = .ok (.getfield 13, 3) := by decide +kernel
theorem dX7_bestFrame_46 : decode cX7_bestFrame 46 = .ok (.bipush 8, 2) := by decide +kernel
theorem dX7_bestFrame_48 : decode cX7_bestFrame 48 = .ok (.iaload, 1) := by decide +kernel
theorem dX7_bestFrame_49 : decode cX7_bestFrame 49 = .ok (.isub, 1) := by decide +kernel
theorem dX7_bestFrame_50 : decode cX7_bestFrame 50 = .ok (.istore 5, 2) := by decide +kernel
theorem dX7_bestFrame_52 : decode cX7_bestFrame 52 = .ok (.aload_n 0, 1) := by decide +kernel
theorem dX7_bestFrame_53 : decode cX7_bestFrame 53 = .ok (.getfield 7, 3) := by decide +kernel
theorem dX7_bestFrame_56 : decode cX7_bestFrame 56 = .ok (.bipush 10, 2) := by decide +kernel
theorem dX7_bestFrame_58 : decode cX7_bestFrame 58 = .ok (.iaload, 1) := by decide +kernel
theorem dX7_bestFrame_59 : decode cX7_bestFrame 59 = .ok (.aload_n 0, 1) := by decide +kernel
theorem dX7_bestFrame_60 : decode cX7_bestFrame 60 = .ok (.getfield 13, 3) := by decide +kernel
theorem dX7_bestFrame_63 : decode cX7_bestFrame 63 = .ok (.bipush 10, 2) := by decide +kernel
theorem dX7_bestFrame_65 : decode cX7_bestFrame 65 = .ok (.iaload, 1) := by decide +kernel
theorem dX7_bestFrame_66 : decode cX7_bestFrame 66 = .ok (.isub, 1) := by decide +kernel
theorem dX7_bestFrame_67 : decode cX7_bestFrame 67 = .ok (.istore 6, 2) := by decide +kernel
theorem dX7_bestFrame_69 : decode cX7_bestFrame 69 = .ok (.iload 5, 2) := by decide +kernel
theorem dX7_bestFrame_71 : decode cX7_bestFrame 71 = .ok (.iload_n 2, 1) := by decide +kernel
theorem dX7_bestFrame_72 : decode cX7_bestFrame 72 = .ok (.if_icmp .gt 15, 3) := by decide +kernel
theorem dX7_bestFrame_75 : decode cX7_bestFrame 75 = .ok (.iload 5, 2) := by decide +kernel
theorem dX7_bestFrame_77 : decode cX7_bestFrame 77 = .ok (.iload_n 2, 1) := by decide +kernel
theorem dX7_bestFrame_78 : decode cX7_bestFrame 78 = .ok (.if_icmp .ne 13, 3) := by decide +kernel
theorem dX7_bestFrame_81 : decode cX7_bestFrame 81 = .ok (.iload 6, 2) := by decide +kernel
theorem dX7_bestFrame_83 : decode cX7_bestFrame 83 = .ok (.iload_n 3, 1) := by decide +kernel
theorem dX7_bestFrame_84 : decode cX7_bestFrame 84 = .ok (.if_icmp .ge 7, 3) := by decide +kernel
theorem dX7_bestFrame_87 : decode cX7_bestFrame 87 = .ok (.iconst 1, 1) := by decide +kernel
theorem dX7_bestFrame_88 : decode cX7_bestFrame 88 = .ok (.goto 4, 3) := by decide +kernel
theorem dX7_bestFrame_91 : decode cX7_bestFrame 91 = .ok (.iconst 0, 1) := by decide +kernel
theorem dX7_bestFrame_92 : decode cX7_bestFrame 92 = .ok (.istore 7, 2) := by decide +kernel
theorem dX7_bestFrame_94 : decode cX7_bestFrame 94 = .ok (.iload 7, 2) := by decide +kernel
theorem dX7_bestFrame_96 : decode cX7_bestFrame 96 = .ok (.ifCond .eq 8, 3) := by decide +kernel
theorem dX7_bestFrame_99 : decode cX7_bestFrame 99 = .ok (.iload 4, 2) := by decide +kernel
theorem dX7_bestFrame_101 : decode cX7_bestFrame 101 = .ok (.goto 4, 3) := by decide +kernel
theorem dX7_bestFrame_104 : decode cX7_bestFrame 104 = .ok (.iload_n 1, 1) := by decide +kernel
theorem dX7_bestFrame_105 : decode cX7_bestFrame 105 = .ok (.istore_n 1, 1) := by decide +kernel
theorem dX7_bestFrame_106 : decode cX7_bestFrame 106 = .ok (.iload 7, 2) := by decide +kernel
theorem dX7_bestFrame_108 : decode cX7_bestFrame 108 = .ok (.ifCond .eq 8, 3) := by decide +kernel
theorem dX7_bestFrame_111 : decode cX7_bestFrame 111 = .ok (.iload 5, 2) := by decide +kernel
theorem dX7_bestFrame_113 : decode cX7_bestFrame 113 = .ok (.goto 4, 3) := by decide +kernel
theorem dX7_bestFrame_116 : decode cX7_bestFrame 116 = .ok (.iload_n 2, 1) := by decide +kernel
theorem dX7_bestFrame_117 : decode cX7_bestFrame 117 = .ok (.istore_n 2, 1) := by decide +kernel
theorem dX7_bestFrame_118 : decode cX7_bestFrame 118 = .ok (.iload 7, 2) := by decide +kernel
theorem dX7_bestFrame_120 : decode cX7_bestFrame 120 = .ok (.ifCond .eq 8, 3) := by decide +kernel
theorem dX7_bestFrame_123 : decode cX7_bestFrame 123 = .ok (.iload 6, 2) := by decide +kernel
theorem dX7_bestFrame_125 : decode cX7_bestFrame 125 = .ok (.goto 4, 3) := by decide +kernel
theorem dX7_bestFrame_128 : decode cX7_bestFrame 128 = .ok (.iload_n 3, 1) := by decide +kernel
theorem dX7_bestFrame_129 : decode cX7_bestFrame 129 = .ok (.istore_n 3, 1) := by decide +kernel
theorem dX7_bestFrame_130 : decode cX7_bestFrame 130 = .ok (.aload_n 0, 1) := by decide +kernel
theorem dX7_bestFrame_131 : decode cX7_bestFrame 131 = .ok (.getfield 13, 3) := by decide +kernel
theorem dX7_bestFrame_134 : decode cX7_bestFrame 134 = .ok (.iconst 0, 1) := by decide +kernel
theorem dX7_bestFrame_135 : decode cX7_bestFrame 135 = .ok (.aload_n 0, 1) := by decide +kernel
theorem dX7_bestFrame_136 : decode cX7_bestFrame 136 = .ok (.getfield 7, 3) := by decide +kernel
theorem dX7_bestFrame_139 : decode cX7_bestFrame 139 = .ok (.iconst 0, 1) := by decide +kernel
theorem dX7_bestFrame_140 : decode cX7_bestFrame 140 = .ok (.invokestatic 48, 3) := by decide +kernel
theorem dX7_bestFrame_143 : decode cX7_bestFrame 143 = .ok (.iinc 4 1, 3) := by decide +kernel
theorem dX7_bestFrame_146 : decode cX7_bestFrame 146 = .ok (.goto (-124), 3) := by decide +kernel
theorem dX7_bestFrame_149 : decode cX7_bestFrame 149 = .ok (.iload_n 1, 1) := by decide +kernel
theorem dX7_bestFrame_150 : decode cX7_bestFrame 150 = .ok (.ireturn, 1) := by decide +kernel
theorem dX7_thickest_0 : decode cX7_thickest 0 = .ok (.iload_n 1, 1) := by decide +kernel
theorem dX7_thickest_1 : decode cX7_thickest 1 = .ok (.iconst 0, 1) := by decide +kernel
theorem dX7_thickest_2 : decode cX7_thickest 2 = .ok (.bipush 8, 2) := by decide +kernel
theorem dX7_thickest_4 : decode cX7_thickest 4 = .ok (.invokestatic 63, 3) := by decide +kernel
theorem dX7_thickest_7 : decode cX7_thickest 7 = .ok (.ifCond .ne 6, 3) := by decide +kernel
theorem dX7_thickest_10 : decode cX7_thickest 10 = .ok (.bipush (-2), 2) := by decide +kernel
theorem dX7_thickest_12 : decode cX7_thickest 12 = .ok (.ireturn, 1) := by decide +kernel
theorem dX7_thickest_13 : decode cX7_thickest 13 = .ok (.bipush (-5), 2) := by decide +kernel
theorem dX7_thickest_15 : decode cX7_thickest 15 = .ok (.istore_n 2, 1) := by decide +kernel
theorem dX7_thickest_16 : decode cX7_thickest 16 = .ok (.iconst 0, 1) := by decide +kernel
theorem dX7_thickest_17 : decode cX7_thickest 17 = .ok (.istore_n 3, 1) := by decide +kernel
theorem dX7_thickest_18 : decode cX7_thickest 18 = .ok (.iconst 0, 1) := by decide +kernel
theorem dX7_thickest_19 : decode cX7_thickest 19 = .ok (.istore 4, 2) := by decide +kernel
theorem dX7_thickest_21 : decode cX7_thickest 21 = .ok (.iload 4, 2) := by decide +kernel
theorem dX7_thickest_23 : decode cX7_thickest 23 = .ok (.iconst 1, 1) := by decide +kernel
theorem dX7_thickest_24 : decode cX7_thickest 24 = .ok (.iload_n 1, 1) := by decide +kernel
theorem dX7_thickest_25 : decode cX7_thickest 25 = .ok (.ishl, 1) := by decide +kernel
theorem dX7_thickest_26 : decode cX7_thickest 26 = .ok (.if_icmp .ge 44, 3) := by decide +kernel
theorem dX7_thickest_29 : decode cX7_thickest 29 = .ok (.aload_n 0, 1) := by decide +kernel
theorem dX7_thickest_30 : decode cX7_thickest 30 = .ok (.iload_n 1, 1) := by decide +kernel
theorem dX7_thickest_31 : decode cX7_thickest 31 = .ok (.iload 4, 2) := by decide +kernel
theorem dX7_thickest_33 : decode cX7_thickest 33 = .ok (.invokevirtual 201, 3) := by decide +kernel
theorem dX7_thickest_36 : decode cX7_thickest 36 = .ok (.istore 5, 2) := by decide +kernel
theorem dX7_thickest_38 : decode cX7_thickest 38 = .ok (.iload 5, 2) := by decide +kernel
theorem dX7_thickest_40 : decode cX7_thickest 40 = .ok (.iload_n 3, 1) := by decide +kernel
theorem dX7_thickest_41 : decode cX7_thickest 41 = .ok (.if_icmp .le 8, 3) := by decide +kernel
theorem dX7_thickest_44 : decode cX7_thickest 44 = .ok (.iload 4, 2) := by decide +kernel
theorem dX7_thickest_46 : decode cX7_thickest 46 = .ok (.goto 4, 3) := by decide +kernel
theorem dX7_thickest_49 : decode cX7_thickest 49 = .ok (.iload_n 2, 1) := by decide +kernel
theorem dX7_thickest_50 : decode cX7_thickest 50 = .ok (.istore_n 2, 1) := by decide +kernel
theorem dX7_thickest_51 : decode cX7_thickest 51 = .ok (.iload 5, 2) := by decide +kernel
theorem dX7_thickest_53 : decode cX7_thickest 53 = .ok (.iload_n 3, 1) := by decide +kernel
theorem dX7_thickest_54 : decode cX7_thickest 54 = .ok (.if_icmp .le 8, 3) := by decide +kernel
theorem dX7_thickest_57 : decode cX7_thickest 57 = .ok (.iload 5, 2) := by decide +kernel
theorem dX7_thickest_59 : decode cX7_thickest 59 = .ok (.goto 4, 3) := by decide +kernel
theorem dX7_thickest_62 : decode cX7_thickest 62 = .ok (.iload_n 3, 1) := by decide +kernel
theorem dX7_thickest_63 : decode cX7_thickest 63 = .ok (.istore_n 3, 1) := by decide +kernel
theorem dX7_thickest_64 : decode cX7_thickest 64 = .ok (.iinc 4 1, 3) := by decide +kernel
theorem dX7_thickest_67 : decode cX7_thickest 67 = .ok (.goto (-46), 3) := by decide +kernel
theorem dX7_thickest_70 : decode cX7_thickest 70 = .ok (.iload_n 2, 1) := by decide +kernel
theorem dX7_thickest_71 : decode cX7_thickest 71 = .ok (.ireturn, 1) := by decide +kernel
theorem dL_law_0 : decode cL_law 0 = .ok (.new 7, 3) := by decide +kernel
theorem dL_law_3 : decode cL_law 3 = .ok (.dup, 1) := by decide +kernel
theorem dL_law_4 : decode cL_law 4 = .ok (.invokespecial 9, 3) := by decide +kernel
theorem dL_law_7 : decode cL_law 7 = .ok (.astore_n 1, 1) := by decide +kernel
theorem dL_law_8 : decode cL_law 8 = .ok (.new 10, 3) := by decide +kernel
theorem dL_law_11 : decode cL_law 11 = .ok (.dup, 1) := by decide +kernel
theorem dL_law_12 : decode cL_law 12 = .ok (.invokespecial 12, 3) := by decide +kernel
theorem dL_law_15 : decode cL_law 15 = .ok (.astore_n 2, 1) := by decide +kernel
theorem dL_law_16 : decode cL_law 16 = .ok (.iconst 0, 1) := by decide +kernel
theorem dL_law_17 : decode cL_law 17 = .ok (.istore_n 3, 1) := by decide +kernel
theorem dL_law_18 : decode cL_law 18 = .ok (.iload_n 3, 1) := by decide +kernel
theorem dL_law_19 : decode cL_law 19 = .ok (.aload_n 0, 1) := by decide +kernel
theorem dL_law_20 : decode cL_law 20 = .ok (.arraylength, 1) := by decide +kernel
theorem dL_law_21 : decode cL_law 21 = .ok (.iconst 3, 1) := by decide +kernel
theorem dL_law_22 : decode cL_law 22 = .ok (.isub, 1) := by decide +kernel
theorem dL_law_23 : decode cL_law 23 = .ok (.if_icmp .gt 784, 3) := by decide +kernel
theorem dL_law_26 : decode cL_law 26 = .ok (.aload_n 0, 1) := by decide +kernel
theorem dL_law_27 : decode cL_law 27 = .ok (.iload_n 3, 1) := by decide +kernel
theorem dL_law_28 : decode cL_law 28 = .ok (.iaload, 1) := by decide +kernel
theorem dL_law_29 : decode cL_law 29 = .ok (.bipush 31, 2) := by decide +kernel
theorem dL_law_31 : decode cL_law 31 = .ok (.iand, 1) := by decide +kernel
theorem dL_law_32 : decode cL_law 32 = .ok (.tableswitch 769 0 26 #[124, 147, 170, 193, 206, 239, 272, 295, 308, 341, 380, 403, 426, 451, 464, 477, 490, 503, 516, 539, 572, 595, 618, 651, 700, 733, 746], 124) := by decide +kernel
theorem dL_law_156 : decode cL_law 156 = .ok (.aload_n 1, 1) := by decide +kernel
theorem dL_law_157 : decode cL_law 157 = .ok (.aload_n 0, 1) := by decide +kernel
theorem dL_law_158 : decode cL_law 158 = .ok (.iload_n 3, 1) := by decide +kernel
theorem dL_law_159 : decode cL_law 159 = .ok (.iconst 1, 1) := by decide +kernel
theorem dL_law_160 : decode cL_law 160 = .ok (.iadd, 1) := by decide +kernel
theorem dL_law_161 : decode cL_law 161 = .ok (.iaload, 1) := by decide +kernel
theorem dL_law_162 : decode cL_law 162 = .ok (.invokevirtual 13, 3) := by decide +kernel
theorem dL_law_165 : decode cL_law 165 = .ok (.aload_n 2, 1) := by decide +kernel
theorem dL_law_166 : decode cL_law 166 = .ok (.aload_n 0, 1) := by decide +kernel
theorem dL_law_167 : decode cL_law 167 = .ok (.iload_n 3, 1) := by decide +kernel
theorem dL_law_168 : decode cL_law 168 = .ok (.iconst 1, 1) := by decide +kernel
theorem dL_law_169 : decode cL_law 169 = .ok (.iadd, 1) := by decide +kernel
theorem dL_law_170 : decode cL_law 170 = .ok (.iaload, 1) := by decide +kernel
theorem dL_law_171 : decode cL_law 171 = .ok (.invokevirtual 17, 3) := by decide +kernel
theorem dL_law_174 : decode cL_law 174 = .ok (.if_icmp .eq 627, 3) := by decide +kernel
theorem dL_law_177 : decode cL_law 177 = .ok (.iconst 0, 1) := by decide +kernel
theorem dL_law_178 : decode cL_law 178 = .ok (.ireturn, 1) := by decide +kernel
theorem dL_law_179 : decode cL_law 179 = .ok (.aload_n 1, 1) := by decide +kernel
theorem dL_law_180 : decode cL_law 180 = .ok (.aload_n 0, 1) := by decide +kernel
theorem dL_law_181 : decode cL_law 181 = .ok (.iload_n 3, 1) := by decide +kernel
theorem dL_law_182 : decode cL_law 182 = .ok (.iconst 1, 1) := by decide +kernel
theorem dL_law_183 : decode cL_law 183 = .ok (.iadd, 1) := by decide +kernel
theorem dL_law_184 : decode cL_law 184 = .ok (.iaload, 1) := by decide +kernel
theorem dL_law_185 : decode cL_law 185 = .ok (.invokevirtual 18, 3) := by decide +kernel
theorem dL_law_188 : decode cL_law 188 = .ok (.aload_n 2, 1) := by decide +kernel
theorem dL_law_189 : decode cL_law 189 = .ok (.aload_n 0, 1) := by decide +kernel
theorem dL_law_190 : decode cL_law 190 = .ok (.iload_n 3, 1) := by decide +kernel
theorem dL_law_191 : decode cL_law 191 = .ok (.iconst 1, 1) := by decide +kernel
theorem dL_law_192 : decode cL_law 192 = .ok (.iadd, 1) := by decide +kernel
theorem dL_law_193 : decode cL_law 193 = .ok (.iaload, 1) := by decide +kernel
theorem dL_law_194 : decode cL_law 194 = .ok (.invokevirtual 21, 3) := by decide +kernel
theorem dL_law_197 : decode cL_law 197 = .ok (.if_icmp .eq 604, 3) := by decide +kernel
theorem dL_law_200 : decode cL_law 200 = .ok (.iconst 0, 1) := by decide +kernel
theorem dL_law_201 : decode cL_law 201 = .ok (.ireturn, 1) := by decide +kernel
theorem dL_law_202 : decode cL_law 202 = .ok (.aload_n 1, 1) := by decide +kernel
theorem dL_law_203 : decode cL_law 203 = .ok (.aload_n 0, 1) := by decide +kernel
theorem dL_law_204 : decode cL_law 204 = .ok (.iload_n 3, 1) := by decide +kernel
theorem dL_law_205 : decode cL_law 205 = .ok (.iconst 1, 1) := by decide +kernel
theorem dL_law_206 : decode cL_law 206 = .ok (.iadd, 1) := by decide +kernel
theorem dL_law_207 : decode cL_law 207 = .ok (.iaload, 1) := by decide +kernel
theorem dL_law_208 : decode cL_law 208 = .ok (.invokevirtual 22, 3) := by decide +kernel
theorem dL_law_211 : decode cL_law 211 = .ok (.aload_n 2, 1) := by decide +kernel
theorem dL_law_212 : decode cL_law 212 = .ok (.aload_n 0, 1) := by decide +kernel
theorem dL_law_213 : decode cL_law 213 = .ok (.iload_n 3, 1) := by decide +kernel
theorem dL_law_214 : decode cL_law 214 = .ok (.iconst 1, 1) := by decide +kernel
theorem dL_law_215 : decode cL_law 215 = .ok (.iadd, 1) := by decide +kernel
theorem dL_law_216 : decode cL_law 216 = .ok (.iaload, 1) := by decide +kernel
theorem dL_law_217 : decode cL_law 217 = .ok (.invokevirtual 25, 3) := by decide +kernel
theorem dL_law_220 : decode cL_law 220 = .ok (.if_icmp .eq 581, 3) := by decide +kernel
theorem dL_law_223 : decode cL_law 223 = .ok (.iconst 0, 1) := by decide +kernel
theorem dL_law_224 : decode cL_law 224 = .ok (.ireturn, 1) := by decide +kernel
theorem dL_law_225 : decode cL_law 225 = .ok (.aload_n 1, 1) := by decide +kernel
theorem dL_law_226 : decode cL_law 226 = .ok (.invokevirtual 26, 3) := by decide +kernel
theorem dL_law_229 : decode cL_law 229 = .ok (.aload_n 2, 1) := by decide +kernel
theorem dL_law_230 : decode cL_law 230 = .ok (.invokevirtual 30, 3) := by decide +kernel
theorem dL_law_233 : decode cL_law 233 = .ok (.if_icmp .eq 568, 3) := by decide +kernel
theorem dL_law_236 : decode cL_law 236 = .ok (.iconst 0, 1) := by decide +kernel
theorem dL_law_237 : decode cL_law 237 = .ok (.ireturn, 1) := by decide +kernel
theorem dL_law_238 : decode cL_law 238 = .ok (.aload_n 1, 1) := by decide +kernel
theorem dL_law_239 : decode cL_law 239 = .ok (.aload_n 0, 1) := by decide +kernel
theorem dL_law_240 : decode cL_law 240 = .ok (.iload_n 3, 1) := by decide +kernel
theorem dL_law_241 : decode cL_law 241 = .ok (.iconst 1, 1) := by decide +kernel
theorem dL_law_242 : decode cL_law 242 = .ok (.iadd, 1) := by decide +kernel
theorem dL_law_243 : decode cL_law 243 = .ok (.iaload, 1) := by decide +kernel
theorem dL_law_244 : decode cL_law 244 = .ok (.aload_n 0, 1) := by decide +kernel
theorem dL_law_245 : decode cL_law 245 = .ok (.iload_n 3, 1) := by decide +kernel
theorem dL_law_246 : decode cL_law 246 = .ok (.iconst 2, 1) := by decide +kernel
theorem dL_law_247 : decode cL_law 247 = .ok (.iadd, 1) := by decide +kernel
theorem dL_law_248 : decode cL_law 248 = .ok (.iaload, 1) := by decide +kernel
theorem dL_law_249 : decode cL_law 249 = .ok (.invokevirtual 31, 3) := by decide +kernel
theorem dL_law_252 : decode cL_law 252 = .ok (.aload_n 2, 1) := by decide +kernel
theorem dL_law_253 : decode cL_law 253 = .ok (.aload_n 0, 1) := by decide +kernel
theorem dL_law_254 : decode cL_law 254 = .ok (.iload_n 3, 1) := by decide +kernel
theorem dL_law_255 : decode cL_law 255 = .ok (.iconst 1, 1) := by decide +kernel
theorem dL_law_256 : decode cL_law 256 = .ok (.iadd, 1) := by decide +kernel
theorem dL_law_257 : decode cL_law 257 = .ok (.iaload, 1) := by decide +kernel
theorem dL_law_258 : decode cL_law 258 = .ok (.aload_n 0, 1) := by decide +kernel
theorem dL_law_259 : decode cL_law 259 = .ok (.iload_n 3, 1) := by decide +kernel
theorem dL_law_260 : decode cL_law 260 = .ok (.iconst 2, 1) := by decide +kernel
theorem dL_law_261 : decode cL_law 261 = .ok (.iadd, 1) := by decide +kernel
theorem dL_law_262 : decode cL_law 262 = .ok (.iaload, 1) := by decide +kernel
theorem dL_law_263 : decode cL_law 263 = .ok (.invokevirtual 35, 3) := by decide +kernel
theorem dL_law_266 : decode cL_law 266 = .ok (.if_icmp .eq 535, 3) := by decide +kernel
theorem dL_law_269 : decode cL_law 269 = .ok (.iconst 0, 1) := by decide +kernel
theorem dL_law_270 : decode cL_law 270 = .ok (.ireturn, 1) := by decide +kernel
theorem dL_law_271 : decode cL_law 271 = .ok (.aload_n 1, 1) := by decide +kernel
theorem dL_law_272 : decode cL_law 272 = .ok (.aload_n 0, 1) := by decide +kernel
theorem dL_law_273 : decode cL_law 273 = .ok (.iload_n 3, 1) := by decide +kernel
theorem dL_law_274 : decode cL_law 274 = .ok (.iconst 1, 1) := by decide +kernel
theorem dL_law_275 : decode cL_law 275 = .ok (.iadd, 1) := by decide +kernel
theorem dL_law_276 : decode cL_law 276 = .ok (.iaload, 1) := by decide +kernel
theorem dL_law_277 : decode cL_law 277 = .ok (.aload_n 0, 1) := by decide +kernel
theorem dL_law_278 : decode cL_law 278 = .ok (.iload_n 3, 1) := by decide +kernel
theorem dL_law_279 : decode cL_law 279 = .ok (.iconst 2, 1) := by decide +kernel
theorem dL_law_280 : decode cL_law 280 = .ok (.iadd, 1) := by decide +kernel
theorem dL_law_281 : decode cL_law 281 = .ok (.iaload, 1) := by decide +kernel
theorem dL_law_282 : decode cL_law 282 = .ok (.invokevirtual 36, 3) := by decide +kernel
theorem dL_law_285 : decode cL_law 285 = .ok (.aload_n 2, 1) := by decide +kernel
theorem dL_law_286 : decode cL_law 286 = .ok (.aload_n 0, 1) := by decide +kernel
theorem dL_law_287 : decode cL_law 287 = .ok (.iload_n 3, 1) := by decide +kernel
theorem dL_law_288 : decode cL_law 288 = .ok (.iconst 1, 1) := by decide +kernel
theorem dL_law_289 : decode cL_law 289 = .ok (.iadd, 1) := by decide +kernel
theorem dL_law_290 : decode cL_law 290 = .ok (.iaload, 1) := by decide +kernel
theorem dL_law_291 : decode cL_law 291 = .ok (.aload_n 0, 1) := by decide +kernel
theorem dL_law_292 : decode cL_law 292 = .ok (.iload_n 3, 1) := by decide +kernel
theorem dL_law_293 : decode cL_law 293 = .ok (.iconst 2, 1) := by decide +kernel
theorem dL_law_294 : decode cL_law 294 = .ok (.iadd, 1) := by decide +kernel
theorem dL_law_295 : decode cL_law 295 = .ok (.iaload, 1) := by decide +kernel
theorem dL_law_296 : decode cL_law 296 = .ok (.invokevirtual 39, 3) := by decide +kernel
theorem dL_law_299 : decode cL_law 299 = .ok (.if_icmp .eq 502, 3) := by decide +kernel
theorem dL_law_302 : decode cL_law 302 = .ok (.iconst 0, 1) := by decide +kernel
theorem dL_law_303 : decode cL_law 303 = .ok (.ireturn, 1) := by decide +kernel
theorem dL_law_304 : decode cL_law 304 = .ok (.aload_n 1, 1) := by decide +kernel
theorem dL_law_305 : decode cL_law 305 = .ok (.aload_n 0, 1) := by decide +kernel
theorem dL_law_306 : decode cL_law 306 = .ok (.iload_n 3, 1) := by decide +kernel
theorem dL_law_307 : decode cL_law 307 = .ok (.iconst 1, 1) := by decide +kernel
theorem dL_law_308 : decode cL_law 308 = .ok (.iadd, 1) := by decide +kernel
theorem dL_law_309 : decode cL_law 309 = .ok (.iaload, 1) := by decide +kernel
theorem dL_law_310 : decode cL_law 310 = .ok (.invokevirtual 40, 3) := by decide +kernel
theorem dL_law_313 : decode cL_law 313 = .ok (.aload_n 2, 1) := by decide +kernel
theorem dL_law_314 : decode cL_law 314 = .ok (.aload_n 0, 1) := by decide +kernel
theorem dL_law_315 : decode cL_law 315 = .ok (.iload_n 3, 1) := by decide +kernel
theorem dL_law_316 : decode cL_law 316 = .ok (.iconst 1, 1) := by decide +kernel
theorem dL_law_317 : decode cL_law 317 = .ok (.iadd, 1) := by decide +kernel
theorem dL_law_318 : decode cL_law 318 = .ok (.iaload, 1) := by decide +kernel
theorem dL_law_319 : decode cL_law 319 = .ok (.invokevirtual 43, 3) := by decide +kernel
theorem dL_law_322 : decode cL_law 322 = .ok (.if_icmp .eq 479, 3) := by decide +kernel
theorem dL_law_325 : decode cL_law 325 = .ok (.iconst 0, 1) := by decide +kernel
theorem dL_law_326 : decode cL_law 326 = .ok (.ireturn, 1) := by decide +kernel
theorem dL_law_327 : decode cL_law 327 = .ok (.aload_n 1, 1) := by decide +kernel
theorem dL_law_328 : decode cL_law 328 = .ok (.invokevirtual 44, 3) := by decide +kernel
theorem dL_law_331 : decode cL_law 331 = .ok (.aload_n 2, 1) := by decide +kernel
theorem dL_law_332 : decode cL_law 332 = .ok (.invokevirtual 47, 3) := by decide +kernel
theorem dL_law_335 : decode cL_law 335 = .ok (.if_icmp .eq 466, 3) := by decide +kernel
theorem dL_law_338 : decode cL_law 338 = .ok (.iconst 0, 1) := by decide +kernel
theorem dL_law_339 : decode cL_law 339 = .ok (.ireturn, 1) := by decide +kernel
theorem dL_law_340 : decode cL_law 340 = .ok (.aload_n 1, 1) := by decide +kernel
theorem dL_law_341 : decode cL_law 341 = .ok (.aload_n 0, 1) := by decide +kernel
theorem dL_law_342 : decode cL_law 342 = .ok (.iload_n 3, 1) := by decide +kernel
theorem dL_law_343 : decode cL_law 343 = .ok (.iconst 1, 1) := by decide +kernel
theorem dL_law_344 : decode cL_law 344 = .ok (.iadd, 1) := by decide +kernel
theorem dL_law_345 : decode cL_law 345 = .ok (.iaload, 1) := by decide +kernel
theorem dL_law_346 : decode cL_law 346 = .ok (.aload_n 0, 1) := by decide +kernel
theorem dL_law_347 : decode cL_law 347 = .ok (.iload_n 3, 1) := by decide +kernel
theorem dL_law_348 : decode cL_law 348 = .ok (.iconst 2, 1) := by decide +kernel
theorem dL_law_349 : decode cL_law 349 = .ok (.iadd, 1) := by decide +kernel
theorem dL_law_350 : decode cL_law 350 = .ok (.iaload, 1) := by decide +kernel
theorem dL_law_351 : decode cL_law 351 = .ok (.invokevirtual 48, 3) := by decide +kernel
theorem dL_law_354 : decode cL_law 354 = .ok (.aload_n 2, 1) := by decide +kernel
theorem dL_law_355 : decode cL_law 355 = .ok (.aload_n 0, 1) := by decide +kernel
theorem dL_law_356 : decode cL_law 356 = .ok (.iload_n 3, 1) := by decide +kernel
theorem dL_law_357 : decode cL_law 357 = .ok (.iconst 1, 1) := by decide +kernel
theorem dL_law_358 : decode cL_law 358 = .ok (.iadd, 1) := by decide +kernel
theorem dL_law_359 : decode cL_law 359 = .ok (.iaload, 1) := by decide +kernel
theorem dL_law_360 : decode cL_law 360 = .ok (.aload_n 0, 1) := by decide +kernel
theorem dL_law_361 : decode cL_law 361 = .ok (.iload_n 3, 1) := by decide +kernel
theorem dL_law_362 : decode cL_law 362 = .ok (.iconst 2, 1) := by decide +kernel
theorem dL_law_363 : decode cL_law 363 = .ok (.iadd, 1) := by decide +kernel
theorem dL_law_364 : decode cL_law 364 = .ok (.iaload, 1) := by decide +kernel
theorem dL_law_365 : decode cL_law 365 = .ok (.invokevirtual 51, 3) := by decide +kernel
theorem dL_law_368 : decode cL_law 368 = .ok (.if_icmp .eq 433, 3) := by decide +kernel
theorem dL_law_371 : decode cL_law 371 = .ok (.iconst 0, 1) := by decide +kernel
theorem dL_law_372 : decode cL_law 372 = .ok (.ireturn, 1) := by decide +kernel
theorem dL_law_373 : decode cL_law 373 = .ok (.aload_n 1, 1) := by decide +kernel
theorem dL_law_374 : decode cL_law 374 = .ok (.aload_n 0, 1) := by decide +kernel
theorem dL_law_375 : decode cL_law 375 = .ok (.iload_n 3, 1) := by decide +kernel
theorem dL_law_376 : decode cL_law 376 = .ok (.iconst 1, 1) := by decide +kernel
theorem dL_law_377 : decode cL_law 377 = .ok (.iadd, 1) := by decide +kernel
theorem dL_law_378 : decode cL_law 378 = .ok (.iaload, 1) := by decide +kernel
theorem dL_law_379 : decode cL_law 379 = .ok (.ifCond .eq 7, 3) := by decide +kernel
theorem dL_law_382 : decode cL_law 382 = .ok (.iconst 1, 1) := by decide +kernel
theorem dL_law_383 : decode cL_law 383 = .ok (.goto 4, 3) := by decide +kernel
theorem dL_law_386 : decode cL_law 386 = .ok (.iconst 0, 1) := by decide +kernel
theorem dL_law_387 : decode cL_law 387 = .ok (.invokevirtual 52, 3) := by decide +kernel
theorem dL_law_390 : decode cL_law 390 = .ok (.aload_n 2, 1) := by decide +kernel
theorem dL_law_391 : decode cL_law 391 = .ok (.aload_n 0, 1) := by decide +kernel
theorem dL_law_392 : decode cL_law 392 = .ok (.iload_n 3, 1) := by decide +kernel
theorem dL_law_393 : decode cL_law 393 = .ok (.iconst 1, 1) := by decide +kernel
theorem dL_law_394 : decode cL_law 394 = .ok (.iadd, 1) := by decide +kernel
theorem dL_law_395 : decode cL_law 395 = .ok (.iaload, 1) := by decide +kernel
theorem dL_law_396 : decode cL_law 396 = .ok (.ifCond .eq 7, 3) := by decide +kernel
theorem dL_law_399 : decode cL_law 399 = .ok (.iconst 1, 1) := by decide +kernel
theorem dL_law_400 : decode cL_law 400 = .ok (.goto 4, 3) := by decide +kernel
theorem dL_law_403 : decode cL_law 403 = .ok (.iconst 0, 1) := by decide +kernel
theorem dL_law_404 : decode cL_law 404 = .ok (.invokevirtual 56, 3) := by decide +kernel
theorem dL_law_407 : decode cL_law 407 = .ok (.if_icmp .eq 394, 3) := by decide +kernel
theorem dL_law_410 : decode cL_law 410 = .ok (.iconst 0, 1) := by decide +kernel
theorem dL_law_411 : decode cL_law 411 = .ok (.ireturn, 1) := by decide +kernel
theorem dL_law_412 : decode cL_law 412 = .ok (.aload_n 1, 1) := by decide +kernel
theorem dL_law_413 : decode cL_law 413 = .ok (.aload_n 0, 1) := by decide +kernel
theorem dL_law_414 : decode cL_law 414 = .ok (.iload_n 3, 1) := by decide +kernel
theorem dL_law_415 : decode cL_law 415 = .ok (.iconst 1, 1) := by decide +kernel
theorem dL_law_416 : decode cL_law 416 = .ok (.iadd, 1) := by decide +kernel
theorem dL_law_417 : decode cL_law 417 = .ok (.iaload, 1) := by decide +kernel
theorem dL_law_418 : decode cL_law 418 = .ok (.invokevirtual 57, 3) := by decide +kernel
theorem dL_law_421 : decode cL_law 421 = .ok (.aload_n 2, 1) := by decide +kernel
theorem dL_law_422 : decode cL_law 422 = .ok (.aload_n 0, 1) := by decide +kernel
theorem dL_law_423 : decode cL_law 423 = .ok (.iload_n 3, 1) := by decide +kernel
theorem dL_law_424 : decode cL_law 424 = .ok (.iconst 1, 1) := by decide +kernel
theorem dL_law_425 : decode cL_law 425 = .ok (.iadd, 1) := by decide +kernel
theorem dL_law_426 : decode cL_law 426 = .ok (.iaload, 1) := by decide +kernel
theorem dL_law_427 : decode cL_law 427 = .ok (.invokevirtual 60, 3) := by decide +kernel
theorem dL_law_430 : decode cL_law 430 = .ok (.if_icmp .eq 371, 3) := by decide +kernel
theorem dL_law_433 : decode cL_law 433 = .ok (.iconst 0, 1) := by decide +kernel
theorem dL_law_434 : decode cL_law 434 = .ok (.ireturn, 1) := by decide +kernel
theorem dL_law_435 : decode cL_law 435 = .ok (.aload_n 1, 1) := by decide +kernel
theorem dL_law_436 : decode cL_law 436 = .ok (.aload_n 0, 1) := by decide +kernel
theorem dL_law_437 : decode cL_law 437 = .ok (.iload_n 3, 1) := by decide +kernel
theorem dL_law_438 : decode cL_law 438 = .ok (.iconst 1, 1) := by decide +kernel
theorem dL_law_439 : decode cL_law 439 = .ok (.iadd, 1) := by decide +kernel
theorem dL_law_440 : decode cL_law 440 = .ok (.iaload, 1) := by decide +kernel
theorem dL_law_441 : decode cL_law 441 = .ok (.invokevirtual 61, 3) := by decide +kernel
theorem dL_law_444 : decode cL_law 444 = .ok (.aload_n 2, 1) := by decide +kernel
theorem dL_law_445 : decode cL_law 445 = .ok (.aload_n 0, 1) := by decide +kernel
theorem dL_law_446 : decode cL_law 446 = .ok (.iload_n 3, 1) := by decide +kernel
theorem dL_law_447 : decode cL_law 447 = .ok (.iconst 1, 1) := by decide +kernel
theorem dL_law_448 : decode cL_law 448 = .ok (.iadd, 1) := by decide +kernel
theorem dL_law_449 : decode cL_law 449 = .ok (.iaload, 1) := by decide +kernel
theorem dL_law_450 : decode cL_law 450 = .ok (.invokevirtual 64, 3) := by decide +kernel
theorem dL_law_453 : decode cL_law 453 = .ok (.if_icmp .eq 348, 3) := by decide +kernel
theorem dL_law_456 : decode cL_law 456 = .ok (.iconst 0, 1) := by decide +kernel
theorem dL_law_457 : decode cL_law 457 = .ok (.ireturn, 1) := by decide +kernel
theorem dL_law_458 : decode cL_law 458 = .ok (.aload_n 1, 1) := by decide +kernel
theorem dL_law_459 : decode cL_law 459 = .ok (.aload_n 0, 1) := by decide +kernel
theorem dL_law_460 : decode cL_law 460 = .ok (.iload_n 3, 1) := by decide +kernel
theorem dL_law_461 : decode cL_law 461 = .ok (.iconst 1, 1) := by decide +kernel
theorem dL_law_462 : decode cL_law 462 = .ok (.iadd, 1) := by decide +kernel
theorem dL_law_463 : decode cL_law 463 = .ok (.iaload, 1) := by decide +kernel
theorem dL_law_464 : decode cL_law 464 = .ok (.i2c, 1) := by decide +kernel
theorem dL_law_465 : decode cL_law 465 = .ok (.invokevirtual 65, 3) := by decide +kernel
theorem dL_law_468 : decode cL_law 468 = .ok (.aload_n 2, 1) := by decide +kernel
theorem dL_law_469 : decode cL_law 469 = .ok (.aload_n 0, 1) := by decide +kernel
theorem dL_law_470 : decode cL_law 470 = .ok (.iload_n 3, 1) := by decide +kernel
theorem dL_law_471 : decode cL_law 471 = .ok (.iconst 1, 1) := by decide +kernel
theorem dL_law_472 : decode cL_law 472 = .ok (.iadd, 1) := by decide +kernel
theorem dL_law_473 : decode cL_law 473 = .ok (.iaload, 1) := by decide +kernel
theorem dL_law_474 : decode cL_law 474 = .ok (.i2c, 1) := by decide +kernel
theorem dL_law_475 : decode cL_law 475 = .ok (.invokevirtual 69, 3) := by decide +kernel
theorem dL_law_478 : decode cL_law 478 = .ok (.if_icmp .eq 323, 3) := by decide +kernel
theorem dL_law_481 : decode cL_law 481 = .ok (.iconst 0, 1) := by decide +kernel
theorem dL_law_482 : decode cL_law 482 = .ok (.ireturn, 1) := by decide +kernel
theorem dL_law_483 : decode cL_law 483 = .ok (.aload_n 1, 1) := by decide +kernel
theorem dL_law_484 : decode cL_law 484 = .ok (.invokevirtual 70, 3) := by decide +kernel
theorem dL_law_487 : decode cL_law 487 = .ok (.aload_n 2, 1) := by decide +kernel
theorem dL_law_488 : decode cL_law 488 = .ok (.invokevirtual 73, 3) := by decide +kernel
theorem dL_law_491 : decode cL_law 491 = .ok (.if_icmp .eq 310, 3) := by decide +kernel
theorem dL_law_494 : decode cL_law 494 = .ok (.iconst 0, 1) := by decide +kernel
theorem dL_law_495 : decode cL_law 495 = .ok (.ireturn, 1) := by decide +kernel
theorem dL_law_496 : decode cL_law 496 = .ok (.aload_n 1, 1) := by decide +kernel
theorem dL_law_497 : decode cL_law 497 = .ok (.invokevirtual 74, 3) := by decide +kernel
theorem dL_law_500 : decode cL_law 500 = .ok (.aload_n 2, 1) := by decide +kernel
theorem dL_law_501 : decode cL_law 501 = .ok (.invokevirtual 77, 3) := by decide +kernel
theorem dL_law_504 : decode cL_law 504 = .ok (.if_icmp .eq 297, 3) := by decide +kernel
theorem dL_law_507 : decode cL_law 507 = .ok (.iconst 0, 1) := by decide +kernel
theorem dL_law_508 : decode cL_law 508 = .ok (.ireturn, 1) := by decide +kernel
theorem dL_law_509 : decode cL_law 509 = .ok (.aload_n 1, 1) := by decide +kernel
theorem dL_law_510 : decode cL_law 510 = .ok (.invokevirtual 78, 3) := by decide +kernel
theorem dL_law_513 : decode cL_law 513 = .ok (.aload_n 2, 1) := by decide +kernel
theorem dL_law_514 : decode cL_law 514 = .ok (.invokevirtual 81, 3) := by decide +kernel
theorem dL_law_517 : decode cL_law 517 = .ok (.if_icmp .eq 284, 3) := by decide +kernel
theorem dL_law_520 : decode cL_law 520 = .ok (.iconst 0, 1) := by decide +kernel
theorem dL_law_521 : decode cL_law 521 = .ok (.ireturn, 1) := by decide +kernel
theorem dL_law_522 : decode cL_law 522 = .ok (.aload_n 1, 1) := by decide +kernel
theorem dL_law_523 : decode cL_law 523 = .ok (.invokevirtual 82, 3) := by decide +kernel
theorem dL_law_526 : decode cL_law 526 = .ok (.aload_n 2, 1) := by decide +kernel
theorem dL_law_527 : decode cL_law 527 = .ok (.invokevirtual 85, 3) := by decide +kernel
theorem dL_law_530 : decode cL_law 530 = .ok (.if_icmp .eq 271, 3) := by decide +kernel
theorem dL_law_533 : decode cL_law 533 = .ok (.iconst 0, 1) := by decide +kernel
theorem dL_law_534 : decode cL_law 534 = .ok (.ireturn, 1) := by decide +kernel
theorem dL_law_535 : decode cL_law 535 = .ok (.aload_n 1, 1) := by decide +kernel
theorem dL_law_536 : decode cL_law 536 = .ok (.invokevirtual 86, 3) := by decide +kernel
theorem dL_law_539 : decode cL_law 539 = .ok (.aload_n 2, 1) := by decide +kernel
theorem dL_law_540 : decode cL_law 540 = .ok (.invokevirtual 89, 3) := by decide +kernel
theorem dL_law_543 : decode cL_law 543 = .ok (.if_icmp .eq 258, 3) := by decide +kernel
theorem dL_law_546 : decode cL_law 546 = .ok (.iconst 0, 1) := by decide +kernel
theorem dL_law_547 : decode cL_law 547 = .ok (.ireturn, 1) := by decide +kernel
theorem dL_law_548 : decode cL_law 548 = .ok (.aload_n 1, 1) := by decide +kernel
theorem dL_law_549 : decode cL_law 549 = .ok (.aload_n 0, 1) := by decide +kernel
theorem dL_law_550 : decode cL_law 550 = .ok (.iload_n 3, 1) := by decide +kernel
theorem dL_law_551 : decode cL_law 551 = .ok (.iconst 1, 1) := by decide +kernel
theorem dL_law_552 : decode cL_law 552 = .ok (.iadd, 1) := by decide +kernel
theorem dL_law_553 : decode cL_law 553 = .ok (.iaload, 1) := by decide +kernel
theorem dL_law_554 : decode cL_law 554 = .ok (.invokevirtual 90, 3) := by decide +kernel
theorem dL_law_557 : decode cL_law 557 = .ok (.aload_n 2, 1) := by decide +kernel
theorem dL_law_558 : decode cL_law 558 = .ok (.aload_n 0, 1) := by decide +kernel
theorem dL_law_559 : decode cL_law 559 = .ok (.iload_n 3, 1) := by decide +kernel
theorem dL_law_560 : decode cL_law 560 = .ok (.iconst 1, 1) := by decide +kernel
theorem dL_law_561 : decode cL_law 561 = .ok (.iadd, 1) := by decide +kernel
theorem dL_law_562 : decode cL_law 562 = .ok (.iaload, 1) := by decide +kernel
theorem dL_law_563 : decode cL_law 563 = .ok (.invokevirtual 93, 3) := by decide +kernel
theorem dL_law_566 : decode cL_law 566 = .ok (.if_icmp .eq 235, 3) := by decide +kernel
theorem dL_law_569 : decode cL_law 569 = .ok (.iconst 0, 1) := by decide +kernel
theorem dL_law_570 : decode cL_law 570 = .ok (.ireturn, 1) := by decide +kernel
theorem dL_law_571 : decode cL_law 571 = .ok (.aload_n 1, 1) := by decide +kernel
theorem dL_law_572 : decode cL_law 572 = .ok (.aload_n 0, 1) := by decide +kernel
theorem dL_law_573 : decode cL_law 573 = .ok (.iload_n 3, 1) := by decide +kernel
theorem dL_law_574 : decode cL_law 574 = .ok (.iconst 1, 1) := by decide +kernel
theorem dL_law_575 : decode cL_law 575 = .ok (.iadd, 1) := by decide +kernel
theorem dL_law_576 : decode cL_law 576 = .ok (.iaload, 1) := by decide +kernel
theorem dL_law_577 : decode cL_law 577 = .ok (.aload_n 0, 1) := by decide +kernel
theorem dL_law_578 : decode cL_law 578 = .ok (.iload_n 3, 1) := by decide +kernel
theorem dL_law_579 : decode cL_law 579 = .ok (.iconst 2, 1) := by decide +kernel
theorem dL_law_580 : decode cL_law 580 = .ok (.iadd, 1) := by decide +kernel
theorem dL_law_581 : decode cL_law 581 = .ok (.iaload, 1) := by decide +kernel
theorem dL_law_582 : decode cL_law 582 = .ok (.invokevirtual 94, 3) := by decide +kernel
theorem dL_law_585 : decode cL_law 585 = .ok (.aload_n 2, 1) := by decide +kernel
theorem dL_law_586 : decode cL_law 586 = .ok (.aload_n 0, 1) := by decide +kernel
theorem dL_law_587 : decode cL_law 587 = .ok (.iload_n 3, 1) := by decide +kernel
theorem dL_law_588 : decode cL_law 588 = .ok (.iconst 1, 1) := by decide +kernel
theorem dL_law_589 : decode cL_law 589 = .ok (.iadd, 1) := by decide +kernel
theorem dL_law_590 : decode cL_law 590 = .ok (.iaload, 1) := by decide +kernel
theorem dL_law_591 : decode cL_law 591 = .ok (.aload_n 0, 1) := by decide +kernel
theorem dL_law_592 : decode cL_law 592 = .ok (.iload_n 3, 1) := by decide +kernel
theorem dL_law_593 : decode cL_law 593 = .ok (.iconst 2, 1) := by decide +kernel
theorem dL_law_594 : decode cL_law 594 = .ok (.iadd, 1) := by decide +kernel
theorem dL_law_595 : decode cL_law 595 = .ok (.iaload, 1) := by decide +kernel
theorem dL_law_596 : decode cL_law 596 = .ok (.invokevirtual 97, 3) := by decide +kernel
theorem dL_law_599 : decode cL_law 599 = .ok (.if_icmp .eq 202, 3) := by decide +kernel
theorem dL_law_602 : decode cL_law 602 = .ok (.iconst 0, 1) := by decide +kernel
theorem dL_law_603 : decode cL_law 603 = .ok (.ireturn, 1) := by decide +kernel
theorem dL_law_604 : decode cL_law 604 = .ok (.aload_n 1, 1) := by decide +kernel
theorem dL_law_605 : decode cL_law 605 = .ok (.aload_n 0, 1) := by decide +kernel
theorem dL_law_606 : decode cL_law 606 = .ok (.iload_n 3, 1) := by decide +kernel
theorem dL_law_607 : decode cL_law 607 = .ok (.iconst 1, 1) := by decide +kernel
theorem dL_law_608 : decode cL_law 608 = .ok (.iadd, 1) := by decide +kernel
theorem dL_law_609 : decode cL_law 609 = .ok (.iaload, 1) := by decide +kernel
theorem dL_law_610 : decode cL_law 610 = .ok (.invokevirtual 98, 3) := by decide +kernel
theorem dL_law_613 : decode cL_law 613 = .ok (.aload_n 2, 1) := by decide +kernel
theorem dL_law_614 : decode cL_law 614 = .ok (.aload_n 0, 1) := by decide +kernel
theorem dL_law_615 : decode cL_law 615 = .ok (.iload_n 3, 1) := by decide +kernel
theorem dL_law_616 : decode cL_law 616 = .ok (.iconst 1, 1) := by decide +kernel
theorem dL_law_617 : decode cL_law 617 = .ok (.iadd, 1) := by decide +kernel
theorem dL_law_618 : decode cL_law 618 = .ok (.iaload, 1) := by decide +kernel
theorem dL_law_619 : decode cL_law 619 = .ok (.invokevirtual 101, 3) := by decide +kernel
theorem dL_law_622 : decode cL_law 622 = .ok (.if_icmp .eq 179, 3) := by decide +kernel
theorem dL_law_625 : decode cL_law 625 = .ok (.iconst 0, 1) := by decide +kernel
theorem dL_law_626 : decode cL_law 626 = .ok (.ireturn, 1) := by decide +kernel
theorem dL_law_627 : decode cL_law 627 = .ok (.aload_n 1, 1) := by decide +kernel
theorem dL_law_628 : decode cL_law 628 = .ok (.aload_n 0, 1) := by decide +kernel
theorem dL_law_629 : decode cL_law 629 = .ok (.iload_n 3, 1) := by decide +kernel
theorem dL_law_630 : decode cL_law 630 = .ok (.iconst 1, 1) := by decide +kernel
theorem dL_law_631 : decode cL_law 631 = .ok (.iadd, 1) := by decide +kernel
theorem dL_law_632 : decode cL_law 632 = .ok (.iaload, 1) := by decide +kernel
theorem dL_law_633 : decode cL_law 633 = .ok (.invokevirtual 102, 3) := by decide +kernel
theorem dL_law_636 : decode cL_law 636 = .ok (.aload_n 2, 1) := by decide +kernel
theorem dL_law_637 : decode cL_law 637 = .ok (.aload_n 0, 1) := by decide +kernel
theorem dL_law_638 : decode cL_law 638 = .ok (.iload_n 3, 1) := by decide +kernel
theorem dL_law_639 : decode cL_law 639 = .ok (.iconst 1, 1) := by decide +kernel
theorem dL_law_640 : decode cL_law 640 = .ok (.iadd, 1) := by decide +kernel
theorem dL_law_641 : decode cL_law 641 = .ok (.iaload, 1) := by decide +kernel
theorem dL_law_642 : decode cL_law 642 = .ok (.invokevirtual 105, 3) := by decide +kernel
theorem dL_law_645 : decode cL_law 645 = .ok (.if_icmp .eq 156, 3) := by decide +kernel
theorem dL_law_648 : decode cL_law 648 = .ok (.iconst 0, 1) := by decide +kernel
theorem dL_law_649 : decode cL_law 649 = .ok (.ireturn, 1) := by decide +kernel
theorem dL_law_650 : decode cL_law 650 = .ok (.aload_n 1, 1) := by decide +kernel
theorem dL_law_651 : decode cL_law 651 = .ok (.aload_n 0, 1) := by decide +kernel
theorem dL_law_652 : decode cL_law 652 = .ok (.iload_n 3, 1) := by decide +kernel
theorem dL_law_653 : decode cL_law 653 = .ok (.iconst 1, 1) := by decide +kernel
theorem dL_law_654 : decode cL_law 654 = .ok (.iadd, 1) := by decide +kernel
theorem dL_law_655 : decode cL_law 655 = .ok (.iaload, 1) := by decide +kernel
theorem dL_law_656 : decode cL_law 656 = .ok (.aload_n 0, 1) := by decide +kernel
theorem dL_law_657 : decode cL_law 657 = .ok (.iload_n 3, 1) := by decide +kernel
theorem dL_law_658 : decode cL_law 658 = .ok (.iconst 2, 1) := by decide +kernel
theorem dL_law_659 : decode cL_law 659 = .ok (.iadd, 1) := by decide +kernel
theorem dL_law_660 : decode cL_law 660 = .ok (.iaload, 1) := by decide +kernel
theorem dL_law_661 : decode cL_law 661 = .ok (.invokevirtual 106, 3) := by decide +kernel
theorem dL_law_664 : decode cL_law 664 = .ok (.aload_n 2, 1) := by decide +kernel
theorem dL_law_665 : decode cL_law 665 = .ok (.aload_n 0, 1) := by decide +kernel
theorem dL_law_666 : decode cL_law 666 = .ok (.iload_n 3, 1) := by decide +kernel
theorem dL_law_667 : decode cL_law 667 = .ok (.iconst 1, 1) := by decide +kernel
theorem dL_law_668 : decode cL_law 668 = .ok (.iadd, 1) := by decide +kernel
theorem dL_law_669 : decode cL_law 669 = .ok (.iaload, 1) := by decide +kernel
theorem dL_law_670 : decode cL_law 670 = .ok (.aload_n 0, 1) := by decide +kernel
theorem dL_law_671 : decode cL_law 671 = .ok (.iload_n 3, 1) := by decide +kernel
theorem dL_law_672 : decode cL_law 672 = .ok (.iconst 2, 1) := by decide +kernel
theorem dL_law_673 : decode cL_law 673 = .ok (.iadd, 1) := by decide +kernel
theorem dL_law_674 : decode cL_law 674 = .ok (.iaload, 1) := by decide +kernel
theorem dL_law_675 : decode cL_law 675 = .ok (.invokevirtual 109, 3) := by decide +kernel
theorem dL_law_678 : decode cL_law 678 = .ok (.if_icmp .eq 123, 3) := by decide +kernel
theorem dL_law_681 : decode cL_law 681 = .ok (.iconst 0, 1) := by decide +kernel
theorem dL_law_682 : decode cL_law 682 = .ok (.ireturn, 1) := by decide +kernel
theorem dL_law_683 : decode cL_law 683 = .ok (.aload_n 1, 1) := by decide +kernel
theorem dL_law_684 : decode cL_law 684 = .ok (.aload_n 0, 1) := by decide +kernel
theorem dL_law_685 : decode cL_law 685 = .ok (.iload_n 3, 1) := by decide +kernel
theorem dL_law_686 : decode cL_law 686 = .ok (.iconst 1, 1) := by decide +kernel
theorem dL_law_687 : decode cL_law 687 = .ok (.iadd, 1) := by decide +kernel
theorem dL_law_688 : decode cL_law 688 = .ok (.iaload, 1) := by decide +kernel
theorem dL_law_689 : decode cL_law 689 = .ok (.ifCond .eq 7, 3) := by decide +kernel
theorem dL_law_692 : decode cL_law 692 = .ok (.iconst 1, 1) := by decide +kernel
theorem dL_law_693 : decode cL_law 693 = .ok (.goto 4, 3) := by decide +kernel
theorem dL_law_696 : decode cL_law 696 = .ok (.iconst 0, 1) := by decide +kernel
theorem dL_law_697 : decode cL_law 697 = .ok (.aload_n 0, 1) := by decide +kernel
theorem dL_law_698 : decode cL_law 698 = .ok (.iload_n 3, 1) := by decide +kernel
theorem dL_law_699 : decode cL_law 699 = .ok (.iconst 2, 1) := by decide +kernel
theorem dL_law_700 : decode cL_law 700 = .ok (.iadd, 1) := by decide +kernel
theorem dL_law_701 : decode cL_law 701 = .ok (.iaload, 1) := by decide +kernel
theorem dL_law_702 : decode cL_law 702 = .ok (.invokevirtual 110, 3) := by decide +kernel
theorem dL_law_705 : decode cL_law 705 = .ok (.aload_n 2, 1) := by decide +kernel
theorem dL_law_706 : decode cL_law 706 = .ok (.aload_n 0, 1) := by decide +kernel
theorem dL_law_707 : decode cL_law 707 = .ok (.iload_n 3, 1) := by decide +kernel
theorem dL_law_708 : decode cL_law 708 = .ok (.iconst 1, 1) := by decide +kernel
theorem dL_law_709 : decode cL_law 709 = .ok (.iadd, 1) := by decide +kernel
theorem dL_law_710 : decode cL_law 710 = .ok (.iaload, 1) := by decide +kernel
theorem dL_law_711 : decode cL_law 711 = .ok (.ifCond .eq 7, 3) := by decide +kernel
theorem dL_law_714 : decode cL_law 714 = .ok (.iconst 1, 1) := by decide +kernel
theorem dL_law_715 : decode cL_law 715 = .ok (.goto 4, 3) := by decide +kernel
theorem dL_law_718 : decode cL_law 718 = .ok (.iconst 0, 1) := by decide +kernel
theorem dL_law_719 : decode cL_law 719 = .ok (.aload_n 0, 1) := by decide +kernel
theorem dL_law_720 : decode cL_law 720 = .ok (.iload_n 3, 1) := by decide +kernel
theorem dL_law_721 : decode cL_law 721 = .ok (.iconst 2, 1) := by decide +kernel
theorem dL_law_722 : decode cL_law 722 = .ok (.iadd, 1) := by decide +kernel
theorem dL_law_723 : decode cL_law 723 = .ok (.iaload, 1) := by decide +kernel
theorem dL_law_724 : decode cL_law 724 = .ok (.invokevirtual 114, 3) := by decide +kernel
theorem dL_law_727 : decode cL_law 727 = .ok (.if_icmp .eq 74, 3) := by decide +kernel
theorem dL_law_730 : decode cL_law 730 = .ok (.iconst 0, 1) := by decide +kernel
theorem dL_law_731 : decode cL_law 731 = .ok (.ireturn, 1) := by decide +kernel
theorem dL_law_732 : decode cL_law 732 = .ok (.aload_n 1, 1) := by decide +kernel
theorem dL_law_733 : decode cL_law 733 = .ok (.aload_n 0, 1) := by decide +kernel
theorem dL_law_734 : decode cL_law 734 = .ok (.iload_n 3, 1) := by decide +kernel
theorem dL_law_735 : decode cL_law 735 = .ok (.iconst 1, 1) := by decide +kernel
theorem dL_law_736 : decode cL_law 736 = .ok (.iadd, 1) := by decide +kernel
theorem dL_law_737 : decode cL_law 737 = .ok (.iaload, 1) := by decide +kernel
theorem dL_law_738 : decode cL_law 738 = .ok (.aload_n 0, 1) := by decide +kernel
theorem dL_law_739 : decode cL_law 739 = .ok (.iload_n 3, 1) := by decide +kernel
theorem dL_law_740 : decode cL_law 740 = .ok (.iconst 2, 1) := by decide +kernel
theorem dL_law_741 : decode cL_law 741 = .ok (.iadd, 1) := by decide +kernel
theorem dL_law_742 : decode cL_law 742 = .ok (.iaload, 1) := by decide +kernel
theorem dL_law_743 : decode cL_law 743 = .ok (.invokevirtual 115, 3) := by decide +kernel
theorem dL_law_746 : decode cL_law 746 = .ok (.aload_n 2, 1) := by decide +kernel
theorem dL_law_747 : decode cL_law 747 = .ok (.aload_n 0, 1) := by decide +kernel
theorem dL_law_748 : decode cL_law 748 = .ok (.iload_n 3, 1) := by decide +kernel
theorem dL_law_749 : decode cL_law 749 = .ok (.iconst 1, 1) := by decide +kernel
theorem dL_law_750 : decode cL_law 750 = .ok (.iadd, 1) := by decide +kernel
theorem dL_law_751 : decode cL_law 751 = .ok (.iaload, 1) := by decide +kernel
theorem dL_law_752 : decode cL_law 752 = .ok (.aload_n 0, 1) := by decide +kernel
theorem dL_law_753 : decode cL_law 753 = .ok (.iload_n 3, 1) := by decide +kernel
theorem dL_law_754 : decode cL_law 754 = .ok (.iconst 2, 1) := by decide +kernel
theorem dL_law_755 : decode cL_law 755 = .ok (.iadd, 1) := by decide +kernel
theorem dL_law_756 : decode cL_law 756 = .ok (.iaload, 1) := by decide +kernel
theorem dL_law_757 : decode cL_law 757 = .ok (.invokevirtual 118, 3) := by decide +kernel
theorem dL_law_760 : decode cL_law 760 = .ok (.if_icmp .eq 41, 3) := by decide +kernel
theorem dL_law_763 : decode cL_law 763 = .ok (.iconst 0, 1) := by decide +kernel
theorem dL_law_764 : decode cL_law 764 = .ok (.ireturn, 1) := by decide +kernel
theorem dL_law_765 : decode cL_law 765 = .ok (.aload_n 1, 1) := by decide +kernel
theorem dL_law_766 : decode cL_law 766 = .ok (.invokevirtual 119, 3) := by decide +kernel
theorem dL_law_769 : decode cL_law 769 = .ok (.aload_n 2, 1) := by decide +kernel
theorem dL_law_770 : decode cL_law 770 = .ok (.invokevirtual 122, 3) := by decide +kernel
theorem dL_law_773 : decode cL_law 773 = .ok (.if_icmp .eq 28, 3) := by decide +kernel
theorem dL_law_776 : decode cL_law 776 = .ok (.iconst 0, 1) := by decide +kernel
theorem dL_law_777 : decode cL_law 777 = .ok (.ireturn, 1) := by decide +kernel
theorem dL_law_778 : decode cL_law 778 = .ok (.aload_n 1, 1) := by decide +kernel
theorem dL_law_779 : decode cL_law 779 = .ok (.aload_n 0, 1) := by decide +kernel
theorem dL_law_780 : decode cL_law 780 = .ok (.iload_n 3, 1) := by decide +kernel
theorem dL_law_781 : decode cL_law 781 = .ok (.iconst 1, 1) := by decide +kernel
theorem dL_law_782 : decode cL_law 782 = .ok (.iadd, 1) := by decide +kernel
theorem dL_law_783 : decode cL_law 783 = .ok (.iaload, 1) := by decide +kernel
theorem dL_law_784 : decode cL_law 784 = .ok (.invokevirtual 123, 3) := by decide +kernel
theorem dL_law_787 : decode cL_law 787 = .ok (.aload_n 2, 1) := by decide +kernel
theorem dL_law_788 : decode cL_law 788 = .ok (.aload_n 0, 1) := by decide +kernel
theorem dL_law_789 : decode cL_law 789 = .ok (.iload_n 3, 1) := by decide +kernel
theorem dL_law_790 : decode cL_law 790 = .ok (.iconst 1, 1) := by decide +kernel
theorem dL_law_791 : decode cL_law 791 = .ok (.iadd, 1) := by decide +kernel
theorem dL_law_792 : decode cL_law 792 = .ok (.iaload, 1) := by decide +kernel
theorem dL_law_793 : decode cL_law 793 = .ok (.invokevirtual 126, 3) := by decide +kernel
theorem dL_law_796 : decode cL_law 796 = .ok (.if_icmp .eq 5, 3) := by decide +kernel
theorem dL_law_799 : decode cL_law 799 = .ok (.iconst 0, 1) := by decide +kernel
theorem dL_law_800 : decode cL_law 800 = .ok (.ireturn, 1) := by decide +kernel
theorem dL_law_801 : decode cL_law 801 = .ok (.iinc 3 3, 3) := by decide +kernel
theorem dL_law_804 : decode cL_law 804 = .ok (.goto (-786), 3) := by decide +kernel
theorem dL_law_807 : decode cL_law 807 = .ok (.iconst 1, 1) := by decide +kernel
theorem dL_law_808 : decode cL_law 808 = .ok (.ireturn, 1) := by decide +kernel
