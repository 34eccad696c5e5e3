theorem dX7_recordRow_32 : decode cX7_recordRow 32 = .ok (.iastore, 1) := by decide +kernel
theorem dX7_recordRow_33 : decode cX7_recordRow 33 = .ok (.iinc 2 1, 3) := by decide +kernel
theorem dX7_recordRow_36 : decode cX7_recordRow 36 = .ok (.goto (-26), 3) := by decide +kernel
theorem dX7_recordRow_39 : decode cX7_recordRow 39 = .ok (.aload_n 0, 1) := by decide +kernel
theorem dX7_recordRow_40 : decode cX7_recordRow 40 = .ok (.dup, 1) := by decide +kernel
theorem dX7_recordRow_41 : decode cX7_recordRow 41 = .ok (.getfield 44, 3) := by decide +kernel
theorem dX7_recordRow_44 : decode cX7_recordRow 44 = .ok (.iconst 1, 1) := by decide +kernel
theorem dX7_recordRow_45 : decode cX7_recordRow 45 = .ok (.isub, 1) := by decide +kernel
theorem dX7_recordRow_46 : decode cX7_recordRow 46 = .ok (.putfield 44, 3) := by decide +kernel
theorem dX7_recordRow_49 : decode cX7_recordRow 49 = .ok (.aload_n 1, 1) := by decide +kernel
theorem dX7_recordRow_50 : decode cX7_recordRow 50 = .ok (.iconst 0, 1) := by decide +kernel
theorem dX7_recordRow_51 : decode cX7_recordRow 51 = .ok (.aload_n 0, 1) := by decide +kernel
theorem dX7_recordRow_52 : decode cX7_recordRow 52 = .ok (.getfield 16, 3) := by decide +kernel
theorem dX7_recordRow_55 : decode cX7_recordRow 55 = .ok (.sipush 293, 3) := by decide +kernel
theorem dX7_recordRow_58 : decode cX7_recordRow 58 = .ok (.aload_n 0, 1) := by decide +kernel
theorem dX7_recordRow_59 : decode cX7_recordRow 59 = .ok (.getfield 44, 3) := by decide +kernel
theorem dX7_recordRow_62 : decode cX7_recordRow 62 = .ok (.imul, 1) := by decide +kernel
theorem dX7_recordRow_63 : decode cX7_recordRow 63 = .ok (.invokestatic 48, 3) := by decide +kernel
theorem dX7_recordRow_66 : decode cX7_recordRow 66 = .ok (.aload_n 0, 1) := by decide +kernel
theorem dX7_recordRow_67 : decode cX7_recordRow 67 = .ok (.dup, 1) := by decide +kernel
theorem dX7_recordRow_68 : decode cX7_recordRow 68 = .ok (.getfield 44, 3) := by decide +kernel
theorem dX7_recordRow_71 : decode cX7_recordRow 71 = .ok (.iconst 1, 1) := by decide +kernel
theorem dX7_recordRow_72 : decode cX7_recordRow 72 = .ok (.iadd, 1) := by decide +kernel
theorem dX7_recordRow_73 : decode cX7_recordRow 73 = .ok (.putfield 44, 3) := by decide +kernel
theorem dX7_recordRow_76 : decode cX7_recordRow 76 = .ok (.return_, 1) := by decide +kernel
theorem dX7_record_0 : decode cX7_record 0 = .ok (.aload_n 0, 1) := by decide +kernel
theorem dX7_record_1 : decode cX7_record 1 = .ok (.aload_n 0, 1) := by decide +kernel
theorem dX7_record_2 : decode cX7_record 2 = .ok (.getfield 7, 3) := by decide +kernel
theorem dX7_record_5 : decode cX7_record 5 = .ok (.invokevirtual 52, 3) := by decide +kernel
theorem dX7_record_8 : decode cX7_record 8 = .ok (.return_, 1) := by decide +kernel
theorem dX7_undo_0 : decode cX7_undo 0 = .ok (.aload_n 0, 1) := by decide +kernel
theorem dX7_undo_1 : decode cX7_undo 1 = .ok (.getfield 44, 3) := by decide +kernel
theorem dX7_undo_4 : decode cX7_undo 4 = .ok (.ifCond .ne 6, 3) := by decide +kernel
theorem dX7_undo_7 : decode cX7_undo 7 = .ok (.bipush (-5), 2) := by decide +kernel
theorem dX7_undo_9 : decode cX7_undo 9 = .ok (.ireturn, 1) := by decide +kernel
theorem dX7_undo_10 : decode cX7_undo 10 = .ok (.aload_n 0, 1) := by decide +kernel
theorem dX7_undo_11 : decode cX7_undo 11 = .ok (.dup, 1) := by decide +kernel
theorem dX7_undo_12 : decode cX7_undo 12 = .ok (.getfield 44, 3) := by decide +kernel
theorem dX7_undo_15 : decode cX7_undo 15 = .ok (.iconst 1, 1) := by decide +kernel
theorem dX7_undo_16 : decode cX7_undo 16 = .ok (.isub, 1) := by decide +kernel
theorem dX7_undo_17 : decode cX7_undo 17 = .ok (.putfield 44, 3) := by decide +kernel
theorem dX7_undo_20 : decode cX7_undo 20 = .ok (.aload_n 0, 1) := by decide +kernel
theorem dX7_undo_21 : decode cX7_undo 21 = .ok (.getfield 16, 3) := by decide +kernel
theorem dX7_undo_24 : decode cX7_undo 24 = .ok (.sipush 293, 3) := by decide +kernel
theorem dX7_undo_27 : decode cX7_undo 27 = .ok (.aload_n 0, 1) := by decide +kernel
theorem dX7_undo_28 : decode cX7_undo 28 = .ok (.getfield 44, 3) := by decide +kernel
theorem dX7_undo_31 : decode cX7_undo 31 = .ok (.imul, 1) := by decide +kernel
theorem dX7_undo_32 : decode cX7_undo 32 = .ok (.aload_n 0, 1) := by decide +kernel
theorem dX7_undo_33 : decode cX7_undo 33 = .ok (.getfield 7, 3) := by decide +kernel
theorem dX7_undo_36 : decode cX7_undo 36 = .ok (.iconst 0, 1) := by decide +kernel
theorem dX7_undo_37 : decode cX7_undo 37 = .ok (.invokestatic 48, 3) := by decide +kernel
theorem dX7_undo_40 : decode cX7_undo 40 = .ok (.aload_n 0, 1) := by decide +kernel
theorem dX7_undo_41 : decode cX7_undo 41 = .ok (.getfield 44, 3) := by decide +kernel
theorem dX7_undo_44 : decode cX7_undo 44 = .ok (.ireturn, 1) := by decide +kernel
theorem dX7_keep_0 : decode cX7_keep 0 = .ok (.aload_n 0, 1) := by decide +kernel
theorem dX7_keep_1 : decode cX7_keep 1 = .ok (.getfield 7, 3) := by decide +kernel
theorem dX7_keep_4 : decode cX7_keep 4 = .ok (.iconst 0, 1) := by decide +kernel
theorem dX7_keep_5 : decode cX7_keep 5 = .ok (.aload_n 0, 1) := by decide +kernel
theorem dX7_keep_6 : decode cX7_keep 6 = .ok (.getfield 19, 3) := by decide +kernel
theorem dX7_keep_9 : decode cX7_keep 9 = .ok (.iconst 0, 1) := by decide +kernel
theorem dX7_keep_10 : decode cX7_keep 10 = .ok (.invokestatic 48, 3) := by decide +kernel
theorem dX7_keep_13 : decode cX7_keep 13 = .ok (.aload_n 0, 1) := by decide +kernel
theorem dX7_keep_14 : decode cX7_keep 14 = .ok (.iconst 1, 1) := by decide +kernel
theorem dX7_keep_15 : decode cX7_keep 15 = .ok (.putfield 56, 3) := by decide +kernel
theorem dX7_keep_18 : decode cX7_keep 18 = .ok (.aload_n 0, 1) := by decide +kernel
theorem dX7_keep_19 : decode cX7_keep 19 = .ok (.getfield 7, 3) := by decide +kernel
theorem dX7_keep_22 : decode cX7_keep 22 = .ok (.iconst 0, 1) := by decide +kernel
theorem dX7_keep_23 : decode cX7_keep 23 = .ok (.iaload, 1) := by decide +kernel
theorem dX7_keep_24 : decode cX7_keep 24 = .ok (.ireturn, 1) := by decide +kernel
theorem dX7_restore_0 : decode cX7_restore 0 = .ok (.aload_n 0, 1) := by decide +kernel
theorem dX7_restore_1 : decode cX7_restore 1 = .ok (.getfield 56, 3) := by decide +kernel
theorem dX7_restore_4 : decode cX7_restore 4 = .ok (.ifCond .ne 6, 3) := by decide +kernel
theorem dX7_restore_7 : decode cX7_restore 7 = .ok (.bipush (-5), 2) := by decide +kernel
theorem dX7_restore_9 : decode cX7_restore 9 = .ok (.ireturn, 1) := by decide +kernel
theorem dX7_restore_10 : decode cX7_restore 10 = .ok (.aload_n 0, 1) := by decide +kernel
theorem dX7_restore_11 : decode cX7_restore 11 = .ok (.invokevirtual 60, 3) := by decide +kernel
theorem dX7_restore_14 : decode cX7_restore 14 = .ok (.aload_n 0, 1) := by decide +kernel
theorem dX7_restore_15 : decode cX7_restore 15 = .ok (.getfield 19, 3) := by decide +kernel
theorem dX7_restore_18 : decode cX7_restore 18 = .ok (.iconst 0, 1) := by decide +kernel
theorem dX7_restore_19 : decode cX7_restore 19 = .ok (.aload_n 0, 1) := by decide +kernel
theorem dX7_restore_20 : decode cX7_restore 20 = .ok (.getfield 7, 3) := by decide +kernel
theorem dX7_restore_23 : decode cX7_restore 23 = .ok (.iconst 0, 1) := by decide +kernel
theorem dX7_restore_24 : decode cX7_restore 24 = .ok (.invokestatic 48, 3) := by decide +kernel
theorem dX7_restore_27 : decode cX7_restore 27 = .ok (.aload_n 0, 1) := by decide +kernel
theorem dX7_restore_28 : decode cX7_restore 28 = .ok (.getfield 7, 3) := by decide +kernel
theorem dX7_restore_31 : decode cX7_restore 31 = .ok (.iconst 0, 1) := by decide +kernel
theorem dX7_restore_32 : decode cX7_restore 32 = .ok (.iaload, 1) := by decide +kernel
theorem dX7_restore_33 : decode cX7_restore 33 = .ok (.ireturn, 1) := by decide +kernel
theorem dX7_whyNotPut_0 : decode cX7_whyNotPut 0 = .ok (.iload_n 1, 1) := by decide +kernel
theorem dX7_whyNotPut_1 : decode cX7_whyNotPut 1 = .ok (.iconst 0, 1) := by decide +kernel
theorem dX7_whyNotPut_2 : decode cX7_whyNotPut 2 = .ok (.sipush 255, 3) := by decide +kernel
theorem dX7_whyNotPut_5 : decode cX7_whyNotPut 5 = .ok (.invokestatic 63, 3) := by decide +kernel
theorem dX7_whyNotPut_8 : decode cX7_whyNotPut 8 = .ok (.ifCond .ne 8, 3) := by decide +kernel
theorem dX7_whyNotPut_11 : decode cX7_whyNotPut 11 = .ok (.bipush (-2), 2) := by decide +kernel
theorem dX7_whyNotPut_13 : decode cX7_whyNotPut 13 = .ok (.goto 35, 3) := by decide +kernel
theorem dX7_whyNotPut_16 : decode cX7_whyNotPut 16 = .ok (.aload_n 0, 1) := by decide +kernel
theorem dX7_whyNotPut_17 : decode cX7_whyNotPut 17 = .ok (.iload_n 1, 1) := by decide +kernel
theorem dX7_whyNotPut_18 : decode cX7_whyNotPut 18 = .ok (.invokevirtual 67, 3) := by decide +kernel
theorem dX7_whyNotPut_21 : decode cX7_whyNotPut 21 = .ok (.bipush (-5), 2) := by decide +kernel
theorem dX7_whyNotPut_23 : decode cX7_whyNotPut 23 = .ok (.if_icmp .eq 8, 3) := by decide +kernel
theorem dX7_whyNotPut_26 : decode cX7_whyNotPut 26 = .ok (.bipush (-4), 2) := by decide +kernel
theorem dX7_whyNotPut_28 : decode cX7_whyNotPut 28 = .ok (.goto 20, 3) := by decide +kernel
theorem dX7_whyNotPut_31 : decode cX7_whyNotPut 31 = .ok (.aload_n 0, 1) := by decide +kernel
theorem dX7_whyNotPut_32 : decode cX7_whyNotPut 32 = .ok (.getfield 7, 3) := by decide +kernel
theorem dX7_whyNotPut_35 : decode cX7_whyNotPut 35 = .ok (.iconst 0, 1) := by decide +kernel
theorem dX7_whyNotPut_36 : decode cX7_whyNotPut 36 = .ok (.iaload, 1) := by decide +kernel
theorem dX7_whyNotPut_37 : decode cX7_whyNotPut 37 = .ok (.bipush 20, 2) := by decide +kernel
theorem dX7_whyNotPut_39 : decode cX7_whyNotPut 39 = .ok (.if_icmp .ne 8, 3) := by decide +kernel
theorem dX7_whyNotPut_42 : decode cX7_whyNotPut 42 = .ok (.bipush (-3), 2) := by decide +kernel
theorem dX7_whyNotPut_44 : decode cX7_whyNotPut 44 = .ok (.goto 4, 3) := by decide +kernel
theorem dX7_whyNotPut_47 : decode cX7_whyNotPut 47 = .ok (.iconst 0, 1) := by decide +kernel
theorem dX7_whyNotPut_48 : decode cX7_whyNotPut 48 = .ok (.ireturn, 1) := by decide +kernel
theorem dX7_putNow_0 : decode cX7_putNow 0 = .ok (.aload_n 0, 1) := by decide +kernel
theorem dX7_putNow_1 : decode cX7_putNow 1 = .ok (.getfield 7, 3) := by decide +kernel
theorem dX7_putNow_4 : decode cX7_putNow 4 = .ok (.iconst 0, 1) := by decide +kernel
theorem dX7_putNow_5 : decode cX7_putNow 5 = .ok (.iaload, 1) := by decide +kernel
theorem dX7_putNow_6 : decode cX7_putNow 6 = .ok (.istore_n 2, 1) := by decide +kernel
theorem dX7_putNow_7 : decode cX7_putNow 7 = .ok (.iload_n 2, 1) := by decide +kernel
theorem dX7_putNow_8 : decode cX7_putNow 8 = .ok (.ifCond .le 48, 3) := by decide +kernel
theorem dX7_putNow_11 : decode cX7_putNow 11 = .ok (.aload_n 0, 1) := by decide +kernel
theorem dX7_putNow_12 : decode cX7_putNow 12 = .ok (.iload_n 2, 1) := by decide +kernel
theorem dX7_putNow_13 : decode cX7_putNow 13 = .ok (.iconst 1, 1) := by decide +kernel
theorem dX7_putNow_14 : decode cX7_putNow 14 = .ok (.isub, 1) := by decide +kernel
theorem dX7_putNow_15 : decode cX7_putNow 15 = .ok (.iconst 0, 1) := by decide +kernel
theorem dX7_putNow_16 : decode cX7_putNow 16 = .ok (.invokevirtual 40, 3) := by decide +kernel
theorem dX7_putNow_19 : decode cX7_putNow 19 = .ok (.iload_n 1, 1) := by decide +kernel
theorem dX7_putNow_20 : decode cX7_putNow 20 = .ok (.if_icmp .le 36, 3) := by decide +kernel
theorem dX7_putNow_23 : decode cX7_putNow 23 = .ok (.iconst 0, 1) := by decide +kernel
theorem dX7_putNow_24 : decode cX7_putNow 24 = .ok (.istore_n 3, 1) := by decide +kernel
theorem dX7_putNow_25 : decode cX7_putNow 25 = .ok (.iload_n 3, 1) := by decide +kernel
theorem dX7_putNow_26 : decode cX7_putNow 26 = .ok (.iconst 4, 1) := by decide +kernel
theorem dX7_putNow_27 : decode cX7_putNow 27 = .ok (.if_icmp .ge 23, 3) := by decide +kernel
theorem dX7_putNow_30 : decode cX7_putNow 30 = .ok (.aload_n 0, 1) := by decide +kernel
theorem dX7_putNow_31 : decode cX7_putNow 31 = .ok (.iload_n 2, 1) := by decide +kernel
theorem dX7_putNow_32 : decode cX7_putNow 32 = .ok (.iload_n 3, 1) := by decide +kernel
theorem dX7_putNow_33 : decode cX7_putNow 33 = .ok (.aload_n 0, 1) := by decide +kernel
theorem dX7_putNow_34 : decode cX7_putNow 34 = .ok (.iload_n 2, 1) := by decide +kernel
theorem dX7_putNow_35 : decode cX7_putNow 35 = .ok (.iconst 1, 1) := by decide +kernel
theorem dX7_putNow_36 : decode cX7_putNow 36 = .ok (.isub, 1) := by decide +kernel
theorem dX7_putNow_37 : decode cX7_putNow 37 = .ok (.iload_n 3, 1) := by decide +kernel
theorem dX7_putNow_38 : decode cX7_putNow 38 = .ok (.invokevirtual 40, 3) := by decide +kernel
theorem dX7_putNow_41 : decode cX7_putNow 41 = .ok (.invokevirtual 71, 3) := by decide +kernel
theorem dX7_putNow_44 : decode cX7_putNow 44 = .ok (.iinc 3 1, 3) := by decide +kernel
theorem dX7_putNow_47 : decode cX7_putNow 47 = .ok (.goto (-22), 3) := by decide +kernel
theorem dX7_putNow_50 : decode cX7_putNow 50 = .ok (.iinc 2 (-1), 3) := by decide +kernel
theorem dX7_putNow_53 : decode cX7_putNow 53 = .ok (.goto (-46), 3) := by decide +kernel
theorem dX7_putNow_56 : decode cX7_putNow 56 = .ok (.aload_n 0, 1) := by decide +kernel
theorem dX7_putNow_57 : decode cX7_putNow 57 = .ok (.iload_n 2, 1) := by decide +kernel
theorem dX7_putNow_58 : decode cX7_putNow 58 = .ok (.iconst 0, 1) := by decide +kernel
theorem dX7_putNow_59 : decode cX7_putNow 59 = .ok (.iload_n 1, 1) := by decide +kernel
theorem dX7_putNow_60 : decode cX7_putNow 60 = .ok (.invokevirtual 71, 3) := by decide +kernel
theorem dX7_putNow_63 : decode cX7_putNow 63 = .ok (.aload_n 0, 1) := by decide +kernel
theorem dX7_putNow_64 : decode cX7_putNow 64 = .ok (.iload_n 2, 1) := by decide +kernel
theorem dX7_putNow_65 : decode cX7_putNow 65 = .ok (.iconst 1, 1) := by decide +kernel
theorem dX7_putNow_66 : decode cX7_putNow 66 = .ok (.iconst 1, 1) := by decide +kernel
theorem dX7_putNow_67 : decode cX7_putNow 67 = .ok (.invokevirtual 71, 3) := by decide +kernel
theorem dX7_putNow_70 : decode cX7_putNow 70 = .ok (.aload_n 0, 1) := by decide +kernel
theorem dX7_putNow_71 : decode cX7_putNow 71 = .ok (.iload_n 2, 1) := by decide +kernel
theorem dX7_putNow_72 : decode cX7_putNow 72 = .ok (.iconst 2, 1) := by decide +kernel
theorem dX7_putNow_73 : decode cX7_putNow 73 = .ok (.iconst 0, 1) := by decide +kernel
theorem dX7_putNow_74 : decode cX7_putNow 74 = .ok (.invokevirtual 71, 3) := by decide +kernel
theorem dX7_putNow_77 : decode cX7_putNow 77 = .ok (.aload_n 0, 1) := by decide +kernel
theorem dX7_putNow_78 : decode cX7_putNow 78 = .ok (.iload_n 2, 1) := by decide +kernel
theorem dX7_putNow_79 : decode cX7_putNow 79 = .ok (.iconst 3, 1) := by decide +kernel
theorem dX7_putNow_80 : decode cX7_putNow 80 = .ok (.iconst 0, 1) := by decide +kernel
theorem dX7_putNow_81 : decode cX7_putNow 81 = .ok (.invokevirtual 71, 3) := by decide +kernel
theorem dX7_putNow_84 : decode cX7_putNow 84 = .ok (.aload_n 0, 1) := by decide +kernel
theorem dX7_putNow_85 : decode cX7_putNow 85 = .ok (.getfield 7, 3) := by decide +kernel
theorem dX7_putNow_88 : decode cX7_putNow 88 = .ok (.iconst 0, 1) := by decide +kernel
theorem dX7_putNow_89 : decode cX7_putNow 89 = .ok (.dup2, 1) := by decide +kernel
theorem dX7_putNow_90 : decode cX7_putNow 90 = .ok (.iaload, 1) := by decide +kernel
theorem dX7_putNow_91 : decode cX7_putNow 91 = .ok (.iconst 1, 1) := by decide +kernel
theorem dX7_putNow_92 : decode cX7_putNow 92 = .ok (.iadd, 1) := by decide +kernel
theorem dX7_putNow_93 : decode cX7_putNow 93 = .ok (.iastore, 1) := by decide +kernel
theorem dX7_putNow_94 : decode cX7_putNow 94 = .ok (.return_, 1) := by decide +kernel
theorem dX7_takeNow_0 : decode cX7_takeNow 0 = .ok (.aload_n 0, 1) := by decide +kernel
theorem dX7_takeNow_1 : decode cX7_takeNow 1 = .ok (.getfield 7, 3) := by decide +kernel
theorem dX7_takeNow_4 : decode cX7_takeNow 4 = .ok (.iconst 0, 1) := by decide +kernel
theorem dX7_takeNow_5 : decode cX7_takeNow 5 = .ok (.dup2, 1) := by decide +kernel
theorem dX7_takeNow_6 : decode cX7_takeNow 6 = .ok (.iaload, 1) := by decide +kernel
theorem dX7_takeNow_7 : decode cX7_takeNow 7 = .ok (.iconst 1, 1) := by decide +kernel
theorem dX7_takeNow_8 : decode cX7_takeNow 8 = .ok (.isub, 1) := by decide +kernel
theorem dX7_takeNow_9 : decode cX7_takeNow 9 = .ok (.iastore, 1) := by decide +kernel
theorem dX7_takeNow_10 : decode cX7_takeNow 10 = .ok (.iconst 4, 1) := by decide +kernel
theorem dX7_takeNow_11 : decode cX7_takeNow 11 = .ok (.iload_n 1, 1) := by decide +kernel
theorem dX7_takeNow_12 : decode cX7_takeNow 12 = .ok (.imul, 1) := by decide +kernel
theorem dX7_takeNow_13 : decode cX7_takeNow 13 = .ok (.istore_n 2, 1) := by decide +kernel
theorem dX7_takeNow_14 : decode cX7_takeNow 14 = .ok (.iload_n 2, 1) := by decide +kernel
theorem dX7_takeNow_15 : decode cX7_takeNow 15 = .ok (.iconst 4, 1) := by decide +kernel
theorem dX7_takeNow_16 : decode cX7_takeNow 16 = .ok (.aload_n 0, 1) := by decide +kernel
theorem dX7_takeNow_17 : decode cX7_takeNow 17 = .ok (.getfield 7, 3) := by decide +kernel
theorem dX7_takeNow_20 : decode cX7_takeNow 20 = .ok (.iconst 0, 1) := by decide +kernel
theorem dX7_takeNow_21 : decode cX7_takeNow 21 = .ok (.iaload, 1) := by decide +kernel
theorem dX7_takeNow_22 : decode cX7_takeNow 22 = .ok (.imul, 1) := by decide +kernel
theorem dX7_takeNow_23 : decode cX7_takeNow 23 = .ok (.if_icmp .ge 29, 3) := by decide +kernel
theorem dX7_takeNow_26 : decode cX7_takeNow 26 = .ok (.aload_n 0, 1) := by decide +kernel
theorem dX7_takeNow_27 : decode cX7_takeNow 27 = .ok (.getfield 7, 3) := by decide +kernel
theorem dX7_takeNow_30 : decode cX7_takeNow 30 = .ok (.bipush 13, 2) := by decide +kernel
theorem dX7_takeNow_32 : decode cX7_takeNow 32 = .ok (.iload_n 2, 1) := by decide +kernel
theorem dX7_takeNow_33 : decode cX7_takeNow 33 = .ok (.iadd, 1) := by decide +kernel
theorem dX7_takeNow_34 : decode cX7_takeNow 34 = .ok (.aload_n 0, 1) := by decide +kernel
theorem dX7_takeNow_35 : decode cX7_takeNow 35 = .ok (.getfield 7, 3) := by decide +kernel
theorem dX7_takeNow_38 : decode cX7_takeNow 38 = .ok (.bipush 13, 2) := by decide +kernel
theorem dX7_takeNow_40 : decode cX7_takeNow 40 = .ok (.iload_n 2, 1) := by decide +kernel
theorem dX7_takeNow_41 : decode cX7_takeNow 41 = .ok (.iadd, 1) := by decide +kernel
theorem dX7_takeNow_42 : decode cX7_takeNow 42 = .ok (.iconst 4, 1) := by decide +kernel
theorem dX7_takeNow_43 : decode cX7_takeNow 43 = .ok (.iadd, 1) := by decide +kernel
theorem dX7_takeNow_44 : decode cX7_takeNow 44 = .ok (.iaload, 1) := by decide +kernel
theorem dX7_takeNow_45 : decode cX7_takeNow 45 = .ok (.iastore, 1) := by decide +kernel
theorem dX7_takeNow_46 : decode cX7_takeNow 46 = .ok (.iinc 2 1, 3) := by decide +kernel
theorem dX7_takeNow_49 : decode cX7_takeNow 49 = .ok (.goto (-35), 3) := by decide +kernel
theorem dX7_takeNow_52 : decode cX7_takeNow 52 = .ok (.return_, 1) := by decide +kernel
theorem dX7_put_0 : decode cX7_put 0 = .ok (.aload_n 0, 1) := by decide +kernel
theorem dX7_put_1 : decode cX7_put 1 = .ok (.iload_n 1, 1) := by decide +kernel
theorem dX7_put_2 : decode cX7_put 2 = .ok (.invokevirtual 75, 3) := by decide +kernel
theorem dX7_put_5 : decode cX7_put 5 = .ok (.istore_n 2, 1) := by decide +kernel
theorem dX7_put_6 : decode cX7_put 6 = .ok (.iload_n 2, 1) := by decide +kernel
theorem dX7_put_7 : decode cX7_put 7 = .ok (.ifCond .ge 5, 3) := by decide +kernel
theorem dX7_put_10 : decode cX7_put 10 = .ok (.iload_n 2, 1) := by decide +kernel
theorem dX7_put_11 : decode cX7_put 11 = .ok (.ireturn, 1) := by decide +kernel
theorem dX7_put_12 : decode cX7_put 12 = .ok (.aload_n 0, 1) := by decide +kernel
theorem dX7_put_13 : decode cX7_put 13 = .ok (.invokevirtual 60, 3) := by decide +kernel
theorem dX7_put_16 : decode cX7_put 16 = .ok (.aload_n 0, 1) := by decide +kernel
theorem dX7_put_17 : decode cX7_put 17 = .ok (.iload_n 1, 1) := by decide +kernel
theorem dX7_put_18 : decode cX7_put 18 = .ok (.invokevirtual 78, 3) := by decide +kernel
theorem dX7_put_21 : decode cX7_put 21 = .ok (.aload_n 0, 1) := by decide +kernel
theorem dX7_put_22 : decode cX7_put 22 = .ok (.getfield 7, 3) := by decide +kernel
theorem dX7_put_25 : decode cX7_put 25 = .ok (.iconst 0, 1) := by decide +kernel
theorem dX7_put_26 : decode cX7_put 26 = .ok (.iaload, 1) := by decide +kernel
theorem dX7_put_27 : decode cX7_put 27 = .ok (.ireturn, 1) := by decide +kernel
theorem dX7_take_0 : decode cX7_take 0 = .ok (.aload_n 0, 1) := by decide +kernel
theorem dX7_take_1 : decode cX7_take 1 = .ok (.iload_n 1, 1) := by decide +kernel
theorem dX7_take_2 : decode cX7_take 2 = .ok (.invokevirtual 67, 3) := by decide +kernel
theorem dX7_take_5 : decode cX7_take 5 = .ok (.istore_n 2, 1) := by decide +kernel
theorem dX7_take_6 : decode cX7_take 6 = .ok (.iload_n 2, 1) := by decide +kernel
theorem dX7_take_7 : decode cX7_take 7 = .ok (.bipush (-5), 2) := by decide +kernel
theorem dX7_take_9 : decode cX7_take 9 = .ok (.if_icmp .ne 5, 3) := by decide +kernel
theorem dX7_take_12 : decode cX7_take 12 = .ok (.iconst (-1), 1) := by decide +kernel
theorem dX7_take_13 : decode cX7_take 13 = .ok (.ireturn, 1) := by decide +kernel
theorem dX7_take_14 : decode cX7_take 14 = .ok (.aload_n 0, 1) := by decide +kernel
theorem dX7_take_15 : decode cX7_take 15 = .ok (.invokevirtual 60, 3) := by decide +kernel
theorem dX7_take_18 : decode cX7_take 18 = .ok (.aload_n 0, 1) := by decide +kernel
theorem dX7_take_19 : decode cX7_take 19 = .ok (.iload_n 2, 1) := by decide +kernel
theorem dX7_take_20 : decode cX7_take 20 = .ok (.invokevirtual 82, 3) := by decide +kernel
theorem dX7_take_23 : decode cX7_take 23 = .ok (.aload_n 0, 1) := by decide +kernel
theorem dX7_take_24 : decode cX7_take 24 = .ok (.getfield 7, 3) := by decide +kernel
theorem dX7_take_27 : decode cX7_take 27 = .ok (.iconst 0, 1) := by decide +kernel
theorem dX7_take_28 : decode cX7_take 28 = .ok (.iaload, 1) := by decide +kernel
theorem dX7_take_29 : decode cX7_take 29 = .ok (.ireturn, 1) := by decide +kernel
theorem dX7_awake_0 : decode cX7_awake 0 = .ok (.iconst 0, 1) := by decide +kernel
theorem dX7_awake_1 : decode cX7_awake 1 = .ok (.istore_n 1, 1) := by decide +kernel
theorem dX7_awake_2 : decode cX7_awake 2 = .ok (.iconst 0, 1) := by decide +kernel
theorem dX7_awake_3 : decode cX7_awake 3 = .ok (.istore_n 2, 1) := by decide +kernel
theorem dX7_awake_4 : decode cX7_awake 4 = .ok (.iload_n 2, 1) := by decide +kernel
theorem dX7_awake_5 : decode cX7_awake 5 = .ok (.aload_n 0, 1) := by decide +kernel
theorem dX7_awake_6 : decode cX7_awake 6 = .ok (.getfield 7, 3) := by decide +kernel
theorem dX7_awake_9 : decode cX7_awake 9 = .ok (.iconst 0, 1) := by decide +kernel
theorem dX7_awake_10 : decode cX7_awake 10 = .ok (.iaload, 1) := by decide +kernel
theorem dX7_awake_11 : decode cX7_awake 11 = .ok (.if_icmp .ge 18, 3) := by decide +kernel
theorem dX7_awake_14 : decode cX7_awake 14 = .ok (.iload_n 1, 1) := by decide +kernel
theorem dX7_awake_15 : decode cX7_awake 15 = .ok (.aload_n 0, 1) := by decide +kernel
theorem dX7_awake_16 : decode cX7_awake 16 = .ok (.iload_n 2, 1) := by decide +kernel
theorem dX7_awake_17 : decode cX7_awake 17 = .ok (.iconst 1, 1) := by decide +kernel
theorem dX7_awake_18 : decode cX7_awake 18 = .ok (.invokevirtual 40, 3) := by decide +kernel
theorem dX7_awake_21 : decode cX7_awake 21 = .ok (.iadd, 1) := by decide +kernel
theorem dX7_awake_22 : decode cX7_awake 22 = .ok (.istore_n 1, 1) := by decide +kernel
theorem dX7_awake_23 : decode cX7_awake 23 = .ok (.iinc 2 1, 3) := by decide +kernel
theorem dX7_awake_26 : decode cX7_awake 26 = .ok (.goto (-22), 3) := by decide +kernel
theorem dX7_awake_29 : decode cX7_awake 29 = .ok (.iload_n 1, 1) := by decide +kernel
theorem dX7_awake_30 : decode cX7_awake 30 = .ok (.ireturn, 1) := by decide +kernel
theorem dX7_sleep_0 : decode cX7_sleep 0 = .ok (.aload_n 0, 1) := by decide +kernel
theorem dX7_sleep_1 : decode cX7_sleep 1 = .ok (.iload_n 1, 1) := by decide +kernel
theorem dX7_sleep_2 : decode cX7_sleep 2 = .ok (.invokevirtual 67, 3) := by decide +kernel
theorem dX7_sleep_5 : decode cX7_sleep 5 = .ok (.istore_n 2, 1) := by decide +kernel
theorem dX7_sleep_6 : decode cX7_sleep 6 = .ok (.iload_n 2, 1) := by decide +kernel
theorem dX7_sleep_7 : decode cX7_sleep 7 = .ok (.bipush (-5), 2) := by decide +kernel
theorem dX7_sleep_9 : decode cX7_sleep 9 = .ok (.if_icmp .eq 12, 3) := by decide +kernel
theorem dX7_sleep_12 : decode cX7_sleep 12 = .ok (.aload_n 0, 1) := by decide +kernel
theorem dX7_sleep_13 : decode cX7_sleep 13 = .ok (.iload_n 2, 1) := by decide +kernel
theorem dX7_sleep_14 : decode cX7_sleep 14 = .ok (.iconst 1, 1) := by decide +kernel
theorem dX7_sleep_15 : decode cX7_sleep 15 = .ok (.invokevirtual 40, 3) := by decide +kernel
theorem dX7_sleep_18 : decode cX7_sleep 18 = .ok (.ifCond .ne 16, 3) := by decide +kernel
theorem dX7_sleep_21 : decode cX7_sleep 21 = .ok (.iload_n 2, 1) := by decide +kernel
theorem dX7_sleep_22 : decode cX7_sleep 22 = .ok (.bipush (-5), 2) := by decide +kernel
theorem dX7_sleep_24 : decode cX7_sleep 24 = .ok (.if_icmp .ne 7, 3) := by decide +kernel
theorem dX7_sleep_27 : decode cX7_sleep 27 = .ok (.iconst (-1), 1) := by decide +kernel
theorem dX7_sleep_28 : decode cX7_sleep 28 = .ok (.goto 5, 3) := by decide +kernel
theorem dX7_sleep_31 : decode cX7_sleep 31 = .ok (.bipush (-5), 2) := by decide +kernel
theorem dX7_sleep_33 : decode cX7_sleep 33 = .ok (.ireturn, 1) := by decide +kernel
theorem dX7_sleep_34 : decode cX7_sleep 34 = .ok (.aload_n 0, 1) := by decide +kernel
theorem dX7_sleep_35 : decode cX7_sleep 35 = .ok (.invokevirtual 60, 3) := by decide +kernel
theorem dX7_sleep_38 : decode cX7_sleep 38 = .ok (.aload_n 0, 1) := by decide +kernel
theorem dX7_sleep_39 : decode cX7_sleep 39 = .ok (.iload_n 2, 1) := by decide +kernel
theorem dX7_sleep_40 : decode cX7_sleep 40 = .ok (.iconst 1, 1) := by decide +kernel
theorem dX7_sleep_41 : decode cX7_sleep 41 = .ok (.iconst 0, 1) := by decide +kernel
theorem dX7_sleep_42 : decode cX7_sleep 42 = .ok (.invokevirtual 71, 3) := by decide +kernel
theorem dX7_sleep_45 : decode cX7_sleep 45 = .ok (.aload_n 0, 1) := by decide +kernel
theorem dX7_sleep_46 : decode cX7_sleep 46 = .ok (.invokevirtual 85, 3) := by decide +kernel
theorem dX7_sleep_49 : decode cX7_sleep 49 = .ok (.ireturn, 1) := by decide +kernel
theorem dX7_wakeNow_0 : decode cX7_wakeNow 0 = .ok (.iconst 0, 1) := by decide +kernel
theorem dX7_wakeNow_1 : decode cX7_wakeNow 1 = .ok (.istore_n 1, 1) := by decide +kernel
theorem dX7_wakeNow_2 : decode cX7_wakeNow 2 = .ok (.iload_n 1, 1) := by decide +kernel
theorem dX7_wakeNow_3 : decode cX7_wakeNow 3 = .ok (.aload_n 0, 1) := by decide +kernel
theorem dX7_wakeNow_4 : decode cX7_wakeNow 4 = .ok (.getfield 7, 3) := by decide +kernel
theorem dX7_wakeNow_7 : decode cX7_wakeNow 7 = .ok (.iconst 0, 1) := by decide +kernel
theorem dX7_wakeNow_8 : decode cX7_wakeNow 8 = .ok (.iaload, 1) := by decide +kernel
theorem dX7_wakeNow_9 : decode cX7_wakeNow 9 = .ok (.if_icmp .ge 16, 3) := by decide +kernel
theorem dX7_wakeNow_12 : decode cX7_wakeNow 12 = .ok (.aload_n 0, 1) := by decide +kernel
theorem dX7_wakeNow_13 : decode cX7_wakeNow 13 = .ok (.iload_n 1, 1) := by decide +kernel
theorem dX7_wakeNow_14 : decode cX7_wakeNow 14 = .ok (.iconst 1, 1) := by decide +kernel
theorem dX7_wakeNow_15 : decode cX7_wakeNow 15 = .ok (.iconst 1, 1) := by decide +kernel
theorem dX7_wakeNow_16 : decode cX7_wakeNow 16 = .ok (.invokevirtual 71, 3) := by decide +kernel
theorem dX7_wakeNow_19 : decode cX7_wakeNow 19 = .ok (.iinc 1 1, 3) := by decide +kernel
theorem dX7_wakeNow_22 : decode cX7_wakeNow 22 = .ok (.goto (-20), 3) := by decide +kernel
theorem dX7_wakeNow_25 : decode cX7_wakeNow 25 = .ok (.return_, 1) := by decide +kernel
theorem dX7_wakeAll_0 : decode cX7_wakeAll 0 = .ok (.aload_n 0, 1) := by decide +kernel
theorem dX7_wakeAll_1 : decode cX7_wakeAll 1 = .ok (.getfield 7, 3) := by decide +kernel
theorem dX7_wakeAll_4 : decode cX7_wakeAll 4 = .ok (.iconst 0, 1) := by decide +kernel
theorem dX7_wakeAll_5 : decode cX7_wakeAll 5 = .ok (.iaload, 1) := by decide +kernel
theorem dX7_wakeAll_6 : decode cX7_wakeAll 6 = .ok (.aload_n 0, 1) := by decide +kernel
theorem dX7_wakeAll_7 : decode cX7_wakeAll 7 = .ok (.invokevirtual 85, 3) := by decide +kernel
theorem dX7_wakeAll_10 : decode cX7_wakeAll 10 = .ok (.isub, 1) := by decide +kernel
theorem dX7_wakeAll_11 : decode cX7_wakeAll 11 = .ok (.istore_n 1, 1) := by decide +kernel
theorem dX7_wakeAll_12 : decode cX7_wakeAll 12 = .ok (.iload_n 1, 1) := by decide +kernel
theorem dX7_wakeAll_13 : decode cX7_wakeAll 13 = .ok (.ifCond .ne 6, 3) := by decide +kernel
theorem dX7_wakeAll_16 : decode cX7_wakeAll 16 = .ok (.bipush (-5), 2) := by decide +kernel
theorem dX7_wakeAll_18 : decode cX7_wakeAll 18 = .ok (.ireturn, 1) := by decide +kernel
theorem dX7_wakeAll_19 : decode cX7_wakeAll 19 = .ok (.aload_n 0, 1) := by decide +kernel
theorem dX7_wakeAll_20 : decode cX7_wakeAll 20 = .ok (.invokevirtual 60, 3) := by decide +kernel
theorem dX7_wakeAll_23 : decode cX7_wakeAll 23 = .ok (.aload_n 0, 1) := by decide +kernel
theorem dX7_wakeAll_24 : decode cX7_wakeAll 24 = .ok (.invokevirtual 89, 3) := by decide +kernel
theorem dX7_wakeAll_27 : decode cX7_wakeAll 27 = .ok (.iload_n 1, 1) := by decide +kernel
theorem dX7_wakeAll_28 : decode cX7_wakeAll 28 = .ok (.ireturn, 1) := by decide +kernel
theorem dX7_leave_0 : decode cX7_leave 0 = .ok (.aload_n 0, 1) := by decide +kernel
theorem dX7_leave_1 : decode cX7_leave 1 = .ok (.iload_n 1, 1) := by decide +kernel
theorem dX7_leave_2 : decode cX7_leave 2 = .ok (.invokevirtual 67, 3) := by decide +kernel
theorem dX7_leave_5 : decode cX7_leave 5 = .ok (.istore_n 3, 1) := by decide +kernel
theorem dX7_leave_6 : decode cX7_leave 6 = .ok (.iload_n 3, 1) := by decide +kernel
theorem dX7_leave_7 : decode cX7_leave 7 = .ok (.bipush (-5), 2) := by decide +kernel
theorem dX7_leave_9 : decode cX7_leave 9 = .ok (.if_icmp .ne 5, 3) := by decide +kernel
theorem dX7_leave_12 : decode cX7_leave 12 = .ok (.iconst (-1), 1) := by decide +kernel
theorem dX7_leave_13 : decode cX7_leave 13 = .ok (.ireturn, 1) := by decide +kernel
theorem dX7_leave_14 : decode cX7_leave 14 = .ok (.iload_n 2, 1) := by decide +kernel
theorem dX7_leave_15 : decode cX7_leave 15 = .ok (.iconst 0, 1) := by decide +kernel
theorem dX7_leave_16 : decode cX7_leave 16 = .ok (.sipush 200, 3) := by decide +kernel
theorem dX7_leave_19 : decode cX7_leave 19 = .ok (.invokestatic 63, 3) := by decide +kernel
theorem dX7_leave_22 : decode cX7_leave 22 = .ok (.ifCond .ne 6, 3) := by decide +kernel
theorem dX7_leave_25 : decode cX7_leave 25 = .ok (.bipush (-2), 2) := by decide +kernel
theorem dX7_leave_27 : decode cX7_leave 27 = .ok (.ireturn, 1) := by decide +kernel
theorem dX7_leave_28 : decode cX7_leave 28 = .ok (.aload_n 0, 1) := by decide +kernel
theorem dX7_leave_29 : decode cX7_leave 29 = .ok (.iload_n 3, 1) := by decide +kernel
theorem dX7_leave_30 : decode cX7_leave 30 = .ok (.iconst 2, 1) := by decide +kernel
theorem dX7_leave_31 : decode cX7_leave 31 = .ok (.invokevirtual 40, 3) := by decide +kernel
theorem dX7_leave_34 : decode cX7_leave 34 = .ok (.istore 4, 2) := by decide +kernel
theorem dX7_leave_36 : decode cX7_leave 36 = .ok (.iload 4, 2) := by decide +kernel
theorem dX7_leave_38 : decode cX7_leave 38 = .ok (.iload_n 2, 1) := by decide +kernel
theorem dX7_leave_39 : decode cX7_leave 39 = .ok (.if_icmp .ne 6, 3) := by decide +kernel
theorem dX7_leave_42 : decode cX7_leave 42 = .ok (.bipush (-5), 2) := by decide +kernel
theorem dX7_leave_44 : decode cX7_leave 44 = .ok (.ireturn, 1) := by decide +kernel
theorem dX7_leave_45 : decode cX7_leave 45 = .ok (.aload_n 0, 1) := by decide +kernel
theorem dX7_leave_46 : decode cX7_leave 46 = .ok (.invokevirtual 60, 3) := by decide +kernel
theorem dX7_leave_49 : decode cX7_leave 49 = .ok (.aload_n 0, 1) := by decide +kernel
theorem dX7_leave_50 : decode cX7_leave 50 = .ok (.iload_n 3, 1) := by decide +kernel
theorem dX7_leave_51 : decode cX7_leave 51 = .ok (.iconst 2, 1) := by decide +kernel
theorem dX7_leave_52 : decode cX7_leave 52 = .ok (.iload_n 2, 1) := by decide +kernel
theorem dX7_leave_53 : decode cX7_leave 53 = .ok (.invokevirtual 71, 3) := by decide +kernel
theorem dX7_leave_56 : decode cX7_leave 56 = .ok (.iload 4, 2) := by decide +kernel
theorem dX7_leave_58 : decode cX7_leave 58 = .ok (.ireturn, 1) := by decide +kernel
theorem dX7_set_0 : decode cX7_set 0 = .ok (.iload_n 1, 1) := by decide +kernel
theorem dX7_set_1 : decode cX7_set 1 = .ok (.iconst 0, 1) := by decide +kernel
theorem dX7_set_2 : decode cX7_set 2 = .ok (.iconst 1, 1) := by decide +kernel
theorem dX7_set_3 : decode cX7_set 3 = .ok (.invokestatic 63, 3) := by decide +kernel
theorem dX7_set_6 : decode cX7_set 6 = .ok (.ifCond .ne 5, 3) := by decide +kernel
theorem dX7_set_9 : decode cX7_set 9 = .ok (.iconst (-1), 1) := by decide +kernel
theorem dX7_set_10 : decode cX7_set 10 = .ok (.ireturn, 1) := by decide +kernel
theorem dX7_set_11 : decode cX7_set 11 = .ok (.iload_n 2, 1) := by decide +kernel
theorem dX7_set_12 : decode cX7_set 12 = .ok (.iconst 0, 1) := by decide +kernel
theorem dX7_set_13 : decode cX7_set 13 = .ok (.iconst 1, 1) := by decide +kernel
theorem dX7_set_14 : decode cX7_set 14 = .ok (.iload_n 1, 1) := by decide +kernel
theorem dX7_set_15 : decode cX7_set 15 = .ok (.iadd, 1) := by decide +kernel
theorem dX7_set_16 : decode cX7_set 16 = .ok (.invokestatic 63, 3) := by decide +kernel
theorem dX7_set_19 : decode cX7_set 19 = .ok (.ifCond .ne 6, 3) := by decide +kernel
theorem dX7_set_22 : decode cX7_set 22 = .ok (.bipush (-2), 2) := by decide +kernel
theorem dX7_set_24 : decode cX7_set 24 = .ok (.ireturn, 1) := by decide +kernel
theorem dX7_set_25 : decode cX7_set 25 = .ok (.aload_n 0, 1) := by decide +kernel
theorem dX7_set_26 : decode cX7_set 26 = .ok (.getfield 7, 3) := by decide +kernel
theorem dX7_set_29 : decode cX7_set 29 = .ok (.iconst 2, 1) := by decide +kernel
theorem dX7_set_30 : decode cX7_set 30 = .ok (.iload_n 1, 1) := by decide +kernel
theorem dX7_set_31 : decode cX7_set 31 = .ok (.iadd, 1) := by decide +kernel
theorem dX7_set_32 : decode cX7_set 32 = .ok (.iaload, 1) := by decide +kernel
theorem dX7_set_33 : decode cX7_set 33 = .ok (.istore_n 3, 1) := by decide +kernel
theorem dX7_set_34 : decode cX7_set 34 = .ok (.iload_n 3, 1) := by decide +kernel
theorem dX7_set_35 : decode cX7_set 35 = .ok (.iload_n 2, 1) := by decide +kernel
theorem dX7_set_36 : decode cX7_set 36 = .ok (.if_icmp .ne 6, 3) := by decide +kernel
theorem dX7_set_39 : decode cX7_set 39 = .ok (.bipush (-5), 2) := by decide +kernel
theorem dX7_set_41 : decode cX7_set 41 = .ok (.ireturn, 1) := by decide +kernel
theorem dX7_set_42 : decode cX7_set 42 = .ok (.aload_n 0, 1) := by decide +kernel
theorem dX7_set_43 : decode cX7_set 43 = .ok (.invokevirtual 60, 3) := by decide +kernel
theorem dX7_set_46 : decode cX7_set 46 = .ok (.aload_n 0, 1) := by decide +kernel
theorem dX7_set_47 : decode cX7_set 47 = .ok (.getfield 7, 3) := by decide +kernel
theorem dX7_set_50 : decode cX7_set 50 = .ok (.iconst 2, 1) := by decide +kernel
theorem dX7_set_51 : decode cX7_set 51 = .ok (.iload_n 1, 1) := by decide +kernel
theorem dX7_set_52 : decode cX7_set 52 = .ok (.iadd, 1) := by decide +kernel
theorem dX7_set_53 : decode cX7_set 53 = .ok (.iload_n 2, 1) := by decide +kernel
theorem dX7_set_54 : decode cX7_set 54 = .ok (.iastore, 1) := by decide +kernel
theorem dX7_set_55 : decode cX7_set 55 = .ok (.iload_n 3, 1) := by decide +kernel
theorem dX7_set_56 : decode cX7_set 56 = .ok (.ireturn, 1) := by decide +kernel
theorem dX7_shuffle_0 : decode cX7_shuffle 0 = .ok (.iload_n 1, 1) := by decide +kernel
theorem dX7_shuffle_1 : decode cX7_shuffle 1 = .ok (.ifCond .ge 6, 3) := by decide +kernel
theorem dX7_shuffle_4 : decode cX7_shuffle 4 = .ok (.bipush (-2), 2) := by decide +kernel
theorem dX7_shuffle_6 : decode cX7_shuffle 6 = .ok (.ireturn, 1) := by decide +kernel
theorem dX7_shuffle_7 : decode cX7_shuffle 7 = .ok (.aload_n 0, 1) := by decide +kernel
theorem dX7_shuffle_8 : decode cX7_shuffle 8 = .ok (.getfield 7, 3) := by decide +kernel
theorem dX7_shuffle_11 : decode cX7_shuffle 11 = .ok (.iconst 4, 1) := by decide +kernel
theorem dX7_shuffle_12 : decode cX7_shuffle 12 = .ok (.iaload, 1) := by decide +kernel
theorem dX7_shuffle_13 : decode cX7_shuffle 13 = .ok (.istore_n 2, 1) := by decide +kernel
theorem dX7_shuffle_14 : decode cX7_shuffle 14 = .ok (.iload_n 2, 1) := by decide +kernel
theorem dX7_shuffle_15 : decode cX7_shuffle 15 = .ok (.iload_n 1, 1) := by decide +kernel
theorem dX7_shuffle_16 : decode cX7_shuffle 16 = .ok (.if_icmp .ne 6, 3) := by decide +kernel
theorem dX7_shuffle_19 : decode cX7_shuffle 19 = .ok (.bipush (-5), 2) := by decide +kernel
theorem dX7_shuffle_21 : decode cX7_shuffle 21 = .ok (.ireturn, 1) := by decide +kernel
theorem dX7_shuffle_22 : decode cX7_shuffle 22 = .ok (.aload_n 0, 1) := by decide +kernel
theorem dX7_shuffle_23 : decode cX7_shuffle 23 = .ok (.invokevirtual 60, 3) := by decide +kernel
theorem dX7_shuffle_26 : decode cX7_shuffle 26 = .ok (.aload_n 0, 1) := by decide +kernel
theorem dX7_shuffle_27 : decode cX7_shuffle 27 = .ok (.getfield 7, 3) := by decide +kernel
theorem dX7_shuffle_30 : decode cX7_shuffle 30 = .ok (.iconst 4, 1) := by decide +kernel
theorem dX7_shuffle_31 : decode cX7_shuffle 31 = .ok (.iload_n 1, 1) := by decide +kernel
theorem dX7_shuffle_32 : decode cX7_shuffle 32 = .ok (.iastore, 1) := by decide +kernel
theorem dX7_shuffle_33 : decode cX7_shuffle 33 = .ok (.iload_n 2, 1) := by decide +kernel
theorem dX7_shuffle_34 : decode cX7_shuffle 34 = .ok (.ireturn, 1) := by decide +kernel
theorem dX7_forget_0 : decode cX7_forget 0 = .ok (.aload_n 0, 1) := by decide +kernel
theorem dX7_forget_1 : decode cX7_forget 1 = .ok (.getfield 7, 3) := by decide +kernel
theorem dX7_forget_4 : decode cX7_forget 4 = .ok (.iconst 1, 1) := by decide +kernel
theorem dX7_forget_5 : decode cX7_forget 5 = .ok (.iaload, 1) := by decide +kernel
theorem dX7_forget_6 : decode cX7_forget 6 = .ok (.istore_n 1, 1) := by decide +kernel
theorem dX7_forget_7 : decode cX7_forget 7 = .ok (.iload_n 1, 1) := by decide +kernel
theorem dX7_forget_8 : decode cX7_forget 8 = .ok (.ifCond .ne 6, 3) := by decide +kernel
theorem dX7_forget_11 : decode cX7_forget 11 = .ok (.bipush (-5), 2) := by decide +kernel
theorem dX7_forget_13 : decode cX7_forget 13 = .ok (.ireturn, 1) := by decide +kernel
theorem dX7_forget_14 : decode cX7_forget 14 = .ok (.aload_n 0, 1) := by decide +kernel
theorem dX7_forget_15 : decode cX7_forget 15 = .ok (.invokevirtual 60, 3) := by decide +kernel
theorem dX7_forget_18 : decode cX7_forget 18 = .ok (.aload_n 0, 1) := by decide +kernel
theorem dX7_forget_19 : decode cX7_forget 19 = .ok (.getfield 7, 3) := by decide +kernel
theorem dX7_forget_22 : decode cX7_forget 22 = .ok (.iconst 1, 1) := by decide +kernel
theorem dX7_forget_23 : decode cX7_forget 23 = .ok (.iconst 0, 1) := by decide +kernel
theorem dX7_forget_24 : decode cX7_forget 24 = .ok (.iastore, 1) := by decide +kernel
theorem dX7_forget_25 : decode cX7_forget 25 = .ok (.iload_n 1, 1) := by decide +kernel
theorem dX7_forget_26 : decode cX7_forget 26 = .ok (.ireturn, 1) := by decide +kernel
theorem dX7_tell_0 : decode cX7_tell 0 = .ok (.aload_n 0, 1) := by decide +kernel
theorem dX7_tell_1 : decode cX7_tell 1 = .ok (.getfield 7, 3) := by decide +kernel
theorem dX7_tell_4 : decode cX7_tell 4 = .ok (.iconst 1, 1) := by decide +kernel
theorem dX7_tell_5 : decode cX7_tell 5 = .ok (.iaload, 1) := by decide +kernel
theorem dX7_tell_6 : decode cX7_tell 6 = .ok (.sipush 200, 3) := by decide +kernel
theorem dX7_tell_9 : decode cX7_tell 9 = .ok (.if_icmp .ne 48, 3) := by decide +kernel
theorem dX7_tell_12 : decode cX7_tell 12 = .ok (.iconst 0, 1) := by decide +kernel
theorem dX7_tell_13 : decode cX7_tell 13 = .ok (.istore_n 2, 1) := by decide +kernel
theorem dX7_tell_14 : decode cX7_tell 14 = .ok (.iload_n 2, 1) := by decide +kernel
theorem dX7_tell_15 : decode cX7_tell 15 = .ok (.sipush 199, 3) := by decide +kernel
theorem dX7_tell_18 : decode cX7_tell 18 = .ok (.if_icmp .ge 29, 3) := by decide +kernel
theorem dX7_tell_21 : decode cX7_tell 21 = .ok (.aload_n 0, 1) := by decide +kernel
theorem dX7_tell_22 : decode cX7_tell 22 = .ok (.getfield 7, 3) := by decide +kernel
theorem dX7_tell_25 : decode cX7_tell 25 = .ok (.bipush 93, 2) := by decide +kernel
theorem dX7_tell_27 : decode cX7_tell 27 = .ok (.iload_n 2, 1) := by decide +kernel
theorem dX7_tell_28 : decode cX7_tell 28 = .ok (.iadd, 1) := by decide +kernel
theorem dX7_tell_29 : decode cX7_tell 29 = .ok (.aload_n 0, 1) := by decide +kernel
theorem dX7_tell_30 : decode cX7_tell 30 = .ok (.getfield 7, 3) := by decide +kernel
theorem dX7_tell_33 : decode cX7_tell 33 = .ok (.bipush 93, 2) := by decide +kernel
theorem dX7_tell_35 : decode cX7_tell 35 = .ok (.iload_n 2, 1) := by decide +kernel
theorem dX7_tell_36 : decode cX7_tell 36 = .ok (.iadd, 1) := by decide +kernel
theorem dX7_tell_37 : decode cX7_tell 37 = .ok (.iconst 1, 1) := by decide +kernel
theorem dX7_tell_38 : decode cX7_tell 38 = .ok (.iadd, 1) := by decide +kernel
theorem dX7_tell_39 : decode cX7_tell 39 = .ok (.iaload, 1) := by decide +kernel
theorem dX7_tell_40 : decode cX7_tell 40 = .ok (.iastore, 1) := by decide +kernel
theorem dX7_tell_41 : decode cX7_tell 41 = .ok (.iinc 2 1, 3) := by decide +kernel
theorem dX7_tell_44 : decode cX7_tell 44 = .ok (.goto (-30), 3) := by decide +kernel
theorem dX7_tell_47 : decode cX7_tell 47 = .ok (.aload_n 0, 1) := by decide +kernel
theorem dX7_tell_48 : decode cX7_tell 48 = .ok (.getfield 7, 3) := by decide +kernel
theorem dX7_tell_51 : decode cX7_tell 51 = .ok (.iconst 1, 1) := by decide +kernel
theorem dX7_tell_52 : decode cX7_tell 52 = .ok (.dup2, 1) := by decide +kernel
theorem dX7_tell_53 : decode cX7_tell 53 = .ok (.iaload, 1) := by decide +kernel
theorem dX7_tell_54 : decode cX7_tell 54 = .ok (.iconst 1, 1) := by decide +kernel
theorem dX7_tell_55 : decode cX7_tell 55 = .ok (.isub, 1) := by decide +kernel
theorem dX7_tell_56 : decode cX7_tell 56 = .ok (.iastore, 1) := by decide +kernel
theorem dX7_tell_57 : decode cX7_tell 57 = .ok (.aload_n 0, 1) := by decide +kernel
theorem dX7_tell_58 : decode cX7_tell 58 = .ok (.getfield 7, 3) := by decide +kernel
theorem dX7_tell_61 : decode cX7_tell 61 = .ok (.bipush 93, 2) := by decide +kernel
theorem dX7_tell_63 : decode cX7_tell 63 = .ok (.aload_n 0, 1) := by decide +kernel
theorem dX7_tell_64 : decode cX7_tell 64 = .ok (.getfield 7, 3) := by decide +kernel
theorem dX7_tell_67 : decode cX7_tell 67 = .ok (.iconst 1, 1) := by decide +kernel
theorem dX7_tell_68 : decode cX7_tell 68 = .ok (.iaload, 1) := by decide +kernel
theorem dX7_tell_69 : decode cX7_tell 69 = .ok (.iadd, 1) := by decide +kernel
theorem dX7_tell_70 : decode cX7_tell 70 = .ok (.aload_n 0, 1) := by decide +kernel
theorem dX7_tell_71 : decode cX7_tell 71 = .ok (.iload_n 1, 1) := by decide +kernel
theorem dX7_tell_72 : decode cX7_tell 72 = .ok (.iconst 0, 1) := by decide +kernel
theorem dX7_tell_73 : decode cX7_tell 73 = .ok (.invokevirtual 40, 3) := by decide +kernel
theorem dX7_tell_76 : decode cX7_tell 76 = .ok (.iastore, 1) := by decide +kernel
theorem dX7_tell_77 : decode cX7_tell 77 = .ok (.aload_n 0, 1) := by decide +kernel
theorem dX7_tell_78 : decode cX7_tell 78 = .ok (.getfield 7, 3) := by decide +kernel
theorem dX7_tell_81 : decode cX7_tell 81 = .ok (.iconst 1, 1) := by decide +kernel
theorem dX7_tell_82 : decode cX7_tell 82 = .ok (.dup2, 1) := by decide +kernel
theorem dX7_tell_83 : decode cX7_tell 83 = .ok (.iaload, 1) := by decide +kernel
theorem dX7_tell_84 : decode cX7_tell 84 = .ok (.iconst 1, 1) := by decide +kernel
theorem dX7_tell_85 : decode cX7_tell 85 = .ok (.iadd, 1) := by decide +kernel
theorem dX7_tell_86 : decode cX7_tell 86 = .ok (.iastore, 1) := by decide +kernel
theorem dX7_tell_87 : decode cX7_tell 87 = .ok (.aload_n 0, 1) := by decide +kernel
theorem dX7_tell_88 : decode cX7_tell 88 = .ok (.iload_n 1, 1) := by decide +kernel
theorem dX7_tell_89 : decode cX7_tell 89 = .ok (.iconst 3, 1) := by decide +kernel
theorem dX7_tell_90 : decode cX7_tell 90 = .ok (.aload_n 0, 1) := by decide +kernel
theorem dX7_tell_91 : decode cX7_tell 91 = .ok (.iload_n 1, 1) := by decide +kernel
theorem dX7_tell_92 : decode cX7_tell 92 = .ok (.iconst 3, 1) := by decide +kernel
theorem dX7_tell_93 : decode cX7_tell 93 = .ok (.invokevirtual 40, 3) := by decide +kernel
theorem dX7_tell_96 : decode cX7_tell 96 = .ok (.iconst 1, 1) := by decide +kernel
theorem dX7_tell_97 : decode cX7_tell 97 = .ok (.iadd, 1) := by decide +kernel
theorem dX7_tell_98 : decode cX7_tell 98 = .ok (.invokevirtual 71, 3) := by decide +kernel
theorem dX7_tell_101 : decode cX7_tell 101 = .ok (.aload_n 0, 1) := by decide +kernel
theorem dX7_tell_102 : decode cX7_tell 102 = .ok (.getfield 7, 3) := by decide +kernel
theorem dX7_tell_105 : decode cX7_tell 105 = .ok (.iconst 2, 1) := by decide +kernel
theorem dX7_tell_106 : decode cX7_tell 106 = .ok (.iaload, 1) := by decide +kernel
theorem dX7_tell_107 : decode cX7_tell 107 = .ok (.iconst 1, 1) := by decide +kernel
theorem dX7_tell_108 : decode cX7_tell 108 = .ok (.if_icmp .ne 10, 3) := by decide +kernel
theorem dX7_tell_111 : decode cX7_tell 111 = .ok (.aload_n 0, 1) := by decide +kernel
theorem dX7_tell_112 : decode cX7_tell 112 = .ok (.iload_n 1, 1) := by decide +kernel
theorem dX7_tell_113 : decode cX7_tell 113 = .ok (.iconst 1, 1) := by decide +kernel
theorem dX7_tell_114 : decode cX7_tell 114 = .ok (.iconst 0, 1) := by decide +kernel
theorem dX7_tell_115 : decode cX7_tell 115 = .ok (.invokevirtual 71, 3) := by decide +kernel
theorem dX7_tell_118 : decode cX7_tell 118 = .ok (.return_, 1) := by decide +kernel
theorem dX7_letGo_0 : decode cX7_letGo 0 = .ok (.aload_n 0, 1) := by decide +kernel
theorem dX7_letGo_1 : decode cX7_letGo 1 = .ok (.getfield 7, 3) := by decide +kernel
theorem dX7_letGo_4 : decode cX7_letGo 4 = .ok (.iconst 0, 1) := by decide +kernel
theorem dX7_letGo_5 : decode cX7_letGo 5 = .ok (.iaload, 1) := by decide +kernel
theorem dX7_letGo_6 : decode cX7_letGo 6 = .ok (.iconst 1, 1) := by decide +kernel
theorem dX7_letGo_7 : decode cX7_letGo 7 = .ok (.isub, 1) := by decide +kernel
theorem dX7_letGo_8 : decode cX7_letGo 8 = .ok (.istore_n 1, 1) := by decide +kernel
theorem dX7_letGo_9 : decode cX7_letGo 9 = .ok (.iload_n 1, 1) := by decide +kernel
theorem dX7_letGo_10 : decode cX7_letGo 10 = .ok (.ifCond .lt 57, 3) := by decide +kernel
theorem dX7_letGo_13 : decode cX7_letGo 13 = .ok (.aload_n 0, 1) := by decide +kernel
theorem dX7_letGo_14 : decode cX7_letGo 14 = .ok (.iload_n 1, 1) := by decide +kernel
theorem dX7_letGo_15 : decode cX7_letGo 15 = .ok (.iconst 2, 1) := by decide +kernel
theorem dX7_letGo_16 : decode cX7_letGo 16 = .ok (.invokevirtual 40, 3) := by decide +kernel
theorem dX7_letGo_19 : decode cX7_letGo 19 = .ok (.ifCond .le 42, 3) := by decide +kernel
theorem dX7_letGo_22 : decode cX7_letGo 22 = .ok (.aload_n 0, 1) := by decide +kernel
theorem dX7_letGo_23 : decode cX7_letGo 23 = .ok (.iload_n 1, 1) := by decide +kernel
theorem dX7_letGo_24 : decode cX7_letGo 24 = .ok (.iconst 2, 1) := by decide +kernel
theorem dX7_letGo_25 : decode cX7_letGo 25 = .ok (.aload_n 0, 1) := by decide +kernel
theorem dX7_letGo_26 : decode cX7_letGo 26 = .ok (.iload_n 1, 1) := by decide +kernel
theorem dX7_letGo_27 : decode cX7_letGo 27 = .ok (.iconst 2, 1) := by decide +kernel
theorem dX7_letGo_28 : decode cX7_letGo 28 = .ok (.invokevirtual 40, 3) := by decide +kernel
theorem dX7_letGo_31 : decode cX7_letGo 31 = .ok (.iconst 1, 1) := by decide +kernel
theorem dX7_letGo_32 : decode cX7_letGo 32 = .ok (.isub, 1) := by decide +kernel
theorem dX7_letGo_33 : decode cX7_letGo 33 = .ok (.invokevirtual 71, 3) := by decide +kernel
theorem dX7_letGo_36 : decode cX7_letGo 36 = .ok (.aload_n 0, 1) := by decide +kernel
theorem dX7_letGo_37 : decode cX7_letGo 37 = .ok (.iload_n 1, 1) := by decide +kernel
theorem dX7_letGo_38 : decode cX7_letGo 38 = .ok (.iconst 2, 1) := by decide +kernel
theorem dX7_letGo_39 : decode cX7_letGo 39 = .ok (.invokevirtual 40, 3) := by decide +kernel
theorem dX7_letGo_42 : decode cX7_letGo 42 = .ok (.ifCond .ne 19, 3) := by decide +kernel
theorem dX7_letGo_45 : decode cX7_letGo 45 = .ok (.aload_n 0, 1) := by decide +kernel
theorem dX7_letGo_46 : decode cX7_letGo 46 = .ok (.iload_n 1, 1) := by decide +kernel
theorem dX7_letGo_47 : decode cX7_letGo 47 = .ok (.invokevirtual 82, 3) := by decide +kernel
theorem dX7_letGo_50 : decode cX7_letGo 50 = .ok (.aload_n 0, 1) := by decide +kernel
theorem dX7_letGo_51 : decode cX7_letGo 51 = .ok (.getfield 7, 3) := by decide +kernel
theorem dX7_letGo_54 : decode cX7_letGo 54 = .ok (.bipush 12, 2) := by decide +kernel
theorem dX7_letGo_56 : decode cX7_letGo 56 = .ok (.dup2, 1) := by decide +kernel
theorem dX7_letGo_57 : decode cX7_letGo 57 = .ok (.iaload, 1) := by decide +kernel
theorem dX7_letGo_58 : decode cX7_letGo 58 = .ok (.iconst 1, 1) := by decide +kernel
theorem dX7_letGo_59 : decode cX7_letGo 59 = .ok (.iadd, 1) := by decide +kernel
theorem dX7_letGo_60 : decode cX7_letGo 60 = .ok (.iastore, 1) := by decide +kernel
theorem dX7_letGo_61 : decode cX7_letGo 61 = .ok (.iinc 1 (-1), 3) := by decide +kernel
theorem dX7_letGo_64 : decode cX7_letGo 64 = .ok (.goto (-55), 3) := by decide +kernel
theorem dX7_letGo_67 : decode cX7_letGo 67 = .ok (.return_, 1) := by decide +kernel
theorem dX7_begins_0 : decode cX7_begins 0 = .ok (.iload_n 0, 1) := by decide +kernel
theorem dX7_begins_1 : decode cX7_begins 1 = .ok (.bipush 8, 2) := by decide +kernel
theorem dX7_begins_3 : decode cX7_begins 3 = .ok (.iload_n 1, 1) := by decide +kernel
theorem dX7_begins_4 : decode cX7_begins 4 = .ok (.isub, 1) := by decide +kernel
theorem dX7_begins_5 : decode cX7_begins 5 = .ok (.ishr, 1) := by decide +kernel
theorem dX7_begins_6 : decode cX7_begins 6 = .ok (.iload_n 2, 1) := by decide +kernel
theorem dX7_begins_7 : decode cX7_begins 7 = .ok (.if_icmp .ne 7, 3) := by decide +kernel
theorem dX7_begins_10 : decode cX7_begins 10 = .ok (.iconst 1, 1) := by decide +kernel
theorem dX7_begins_11 : decode cX7_begins 11 = .ok (.goto 4, 3) := by decide +kernel
theorem dX7_begins_14 : decode cX7_begins 14 = .ok (.iconst 0, 1) := by decide +kernel
theorem dX7_begins_15 : decode cX7_begins 15 = .ok (.ireturn, 1) := by decide +kernel
theorem dX7_noAnswer_0 : decode cX7_noAnswer 0 = .ok (.aload_n 0, 1) := by decide +kernel
theorem dX7_noAnswer_1 : decode cX7_noAnswer 1 = .ok (.iconst 0, 1) := by decide +kernel
theorem dX7_noAnswer_2 : decode cX7_noAnswer 2 = .ok (.putfield 92, 3) := by decide +kernel
theorem dX7_noAnswer_5 : decode cX7_noAnswer 5 = .ok (.aload_n 0, 1) := by decide +kernel
theorem dX7_noAnswer_6 : decode cX7_noAnswer 6 = .ok (.bipush (-5), 2) := by decide +kernel
theorem dX7_noAnswer_8 : decode cX7_noAnswer 8 = .ok (.putfield 95, 3) := by decide +kernel
theorem dX7_noAnswer_11 : decode cX7_noAnswer 11 = .ok (.aload_n 0, 1) := by decide +kernel
theorem dX7_noAnswer_12 : decode cX7_noAnswer 12 = .ok (.iconst 0, 1) := by decide +kernel
theorem dX7_noAnswer_13 : decode cX7_noAnswer 13 = .ok (.putfield 98, 3) := by decide +kernel
theorem dX7_noAnswer_16 : decode cX7_noAnswer 16 = .ok (.aload_n 0, 1) := by decide +kernel
theorem dX7_noAnswer_17 : decode cX7_noAnswer 17 = .ok (.iconst 0, 1) := by decide +kernel
theorem dX7_noAnswer_18 : decode cX7_noAnswer 18 = .ok (.putfield 101, 3) := by decide +kernel
theorem dX7_noAnswer_21 : decode cX7_noAnswer 21 = .ok (.return_, 1) := by decide +kernel
theorem dX7_answers_0 : decode cX7_answers 0 = .ok (.aload_n 0, 1) := by decide +kernel
theorem dX7_answers_1 : decode cX7_answers 1 = .ok (.dup, 1) := by decide +kernel
theorem dX7_answers_2 : decode cX7_answers 2 = .ok (.getfield 101, 3) := by decide +kernel
theorem dX7_answers_5 : decode cX7_answers 5 = .ok (.aload_n 0, 1) := by decide +kernel
theorem dX7_answers_6 : decode cX7_answers 6 = .ok (.getfield 92, 3) := by decide +kernel
theorem dX7_answers_9 : decode cX7_answers 9 = .ok (.ifCond .ne 7, 3) := by decide +kernel
theorem dX7_answers_12 : decode cX7_answers 12 = .ok (.iconst 0, 1) := by decide +kernel
theorem dX7_answers_13 : decode cX7_answers 13 = .ok (.goto 14, 3) := by decide +kernel
theorem dX7_answers_16 : decode cX7_answers 16 = .ok (.aload_n 0, 1) := by decide +kernel
theorem dX7_answers_17 : decode cX7_answers 17 = .ok (.iload_n 1, 1) := by decide +kernel
theorem dX7_answers_18 : decode cX7_answers 18 = .ok (.iconst 0, 1) := by decide +kernel
theorem dX7_answers_19 : decode cX7_answers 19 = .ok (.invokevirtual 40, 3) := by decide +kernel
theorem dX7_answers_22 : decode cX7_answers 22 = .ok (.aload_n 0, 1) := by decide +kernel
theorem dX7_answers_23 : decode cX7_answers 23 = .ok (.getfield 98, 3) := by decide +kernel
theorem dX7_answers_26 : decode cX7_answers 26 = .ok (.ixor, 1) := by decide +kernel
theorem dX7_answers_27 : decode cX7_answers 27 = .ok (.ior, 1) := by decide +kernel
theorem dX7_answers_28 : decode cX7_answers 28 = .ok (.putfield 101, 3) := by decide +kernel
theorem dX7_answers_31 : decode cX7_answers 31 = .ok (.aload_n 0, 1) := by decide +kernel
theorem dX7_answers_32 : decode cX7_answers 32 = .ok (.dup, 1) := by decide +kernel
theorem dX7_answers_33 : decode cX7_answers 33 = .ok (.getfield 92, 3) := by decide +kernel
theorem dX7_answers_36 : decode cX7_answers 36 = .ok (.iconst 1, 1) := by decide +kernel
theorem dX7_answers_37 : decode cX7_answers 37 = .ok (.iadd, 1) := by decide +kernel
theorem dX7_answers_38 : decode cX7_answers 38 = .ok (.putfield 92, 3) := by decide +kernel
theorem dX7_answers_41 : decode cX7_answers 41 = .ok (.aload_n 0, 1) := by decide +kernel
theorem dX7_answers_42 : decode cX7_answers 42 = .ok (.iload_n 1, 1) := by decide +kernel
theorem dX7_answers_43 : decode cX7_answers 43 = .ok (.putfield 95, 3) := by decide +kernel
theorem dX7_answers_46 : decode cX7_answers 46 = .ok (.aload_n 0, 1) := by decide +kernel
theorem dX7_answers_47 : decode cX7_answers 47 = .ok (.aload_n 0, 1) := by decide +kernel
theorem dX7_answers_48 : decode cX7_answers 48 = .ok (.iload_n 1, 1) := by decide +kernel
theorem dX7_answers_49 : decode cX7_answers 49 = .ok (.iconst 0, 1) := by decide +kernel
theorem dX7_answers_50 : decode cX7_answers 50 = .ok (.invokevirtual 40, 3) := by decide +kernel
theorem dX7_answers_53 : decode cX7_answers 53 = .ok (.putfield 98, 3) := by decide +kernel
theorem dX7_answers_56 : decode cX7_answers 56 = .ok (.return_, 1) := by decide +kernel
theorem dX7_clashBit_0 : decode cX7_clashBit 0 = .ok (.iconst 0, 1) := by decide +kernel
theorem dX7_clashBit_1 : decode cX7_clashBit 1 = .ok (.istore_n 1, 1) := by decide +kernel
theorem dX7_clashBit_2 : decode cX7_clashBit 2 = .ok (.aload_n 0, 1) := by decide +kernel
theorem dX7_clashBit_3 : decode cX7_clashBit 3 = .ok (.getfield 101, 3) := by decide +kernel
theorem dX7_clashBit_6 : decode cX7_clashBit 6 = .ok (.bipush 7, 2) := by decide +kernel
theorem dX7_clashBit_8 : decode cX7_clashBit 8 = .ok (.iload_n 1, 1) := by decide +kernel
theorem dX7_clashBit_9 : decode cX7_clashBit 9 = .ok (.isub, 1) := by decide +kernel
theorem dX7_clashBit_10 : decode cX7_clashBit 10 = .ok (.ishr, 1) := by decide +kernel
theorem dX7_clashBit_11 : decode cX7_clashBit 11 = .ok (.iconst 1, 1) := by decide +kernel
theorem dX7_clashBit_12 : decode cX7_clashBit 12 = .ok (.iand, 1) := by decide +kernel
theorem dX7_clashBit_13 : decode cX7_clashBit 13 = .ok (.ifCond .ne 9, 3) := by decide +kernel
theorem dX7_clashBit_16 : decode cX7_clashBit 16 = .ok (.iinc 1 1, 3) := by decide +kernel
theorem dX7_clashBit_19 : decode cX7_clashBit 19 = .ok (.goto (-17), 3) := by decide +kernel
theorem dX7_clashBit_22 : decode cX7_clashBit 22 = .ok (.iload_n 1, 1) := by decide +kernel
theorem dX7_clashBit_23 : decode cX7_clashBit 23 = .ok (.ireturn, 1) := by decide +kernel
theorem dX7_answer_0 : decode cX7_answer 0 = .ok (.aload_n 0, 1) := by decide +kernel
theorem dX7_answer_1 : decode cX7_answer 1 = .ok (.getfield 92, 3) := by decide +kernel
theorem dX7_answer_4 : decode cX7_answer 4 = .ok (.ifCond .ne 9, 3) := by decide +kernel
theorem dX7_answer_7 : decode cX7_answer 7 = .ok (.sipush 300, 3) := by decide +kernel
theorem dX7_answer_10 : decode cX7_answer 10 = .ok (.goto 26, 3) := by decide +kernel
theorem dX7_answer_13 : decode cX7_answer 13 = .ok (.aload_n 0, 1) := by decide +kernel
theorem dX7_answer_14 : decode cX7_answer 14 = .ok (.getfield 92, 3) := by decide +kernel
theorem dX7_answer_17 : decode cX7_answer 17 = .ok (.iconst 1, 1) := by decide +kernel
theorem dX7_answer_18 : decode cX7_answer 18 = .ok (.if_icmp .ne 10, 3) := by decide +kernel
theorem dX7_answer_21 : decode cX7_answer 21 = .ok (.aload_n 0, 1) := by decide +kernel
theorem dX7_answer_22 : decode cX7_answer 22 = .ok (.getfield 98, 3) := by decide +kernel
theorem dX7_answer_25 : decode cX7_answer 25 = .ok (.goto 11, 3) := by decide +kernel
theorem dX7_answer_28 : decode cX7_answer 28 = .ok (.sipush 400, 3) := by decide +kernel
theorem dX7_answer_31 : decode cX7_answer 31 = .ok (.aload_n 0, 1) := by decide +kernel
theorem dX7_answer_32 : decode cX7_answer 32 = .ok (.invokevirtual 104, 3) := by decide +kernel
theorem dX7_answer_35 : decode cX7_answer 35 = .ok (.iadd, 1) := by decide +kernel
theorem dX7_answer_36 : decode cX7_answer 36 = .ok (.istore_n 1, 1) := by decide +kernel
theorem dX7_answer_37 : decode cX7_answer 37 = .ok (.aload_n 0, 1) := by decide +kernel
theorem dX7_answer_38 : decode cX7_answer 38 = .ok (.getfield 7, 3) := by decide +kernel
theorem dX7_answer_41 : decode cX7_answer 41 = .ok (.bipush 7, 2) := by decide +kernel
theorem dX7_answer_43 : decode cX7_answer 43 = .ok (.dup2, 1) := by decide +kernel
theorem dX7_answer_44 : decode cX7_answer 44 = .ok (.iaload, 1) := by decide +kernel
theorem dX7_answer_45 : decode cX7_answer 45 = .ok (.aload_n 0, 1) := by decide +kernel
theorem dX7_answer_46 : decode cX7_answer 46 = .ok (.getfield 92, 3) := by decide +kernel
theorem dX7_answer_49 : decode cX7_answer 49 = .ok (.ifCond .ne 7, 3) := by decide +kernel
theorem dX7_answer_52 : decode cX7_answer 52 = .ok (.iconst 1, 1) := by decide +kernel
theorem dX7_answer_53 : decode cX7_answer 53 = .ok (.goto 4, 3) := by decide +kernel
theorem dX7_answer_56 : decode cX7_answer 56 = .ok (.iconst 0, 1) := by decide +kernel
theorem dX7_answer_57 : decode cX7_answer 57 = .ok (.iadd, 1) := by decide +kernel
theorem dX7_answer_58 : decode cX7_answer 58 = .ok (.iastore, 1) := by decide +kernel
theorem dX7_answer_59 : decode cX7_answer 59 = .ok (.aload_n 0, 1) := by decide +kernel
theorem dX7_answer_60 : decode cX7_answer 60 = .ok (.getfield 7, 3) := by decide +kernel
theorem dX7_answer_63 : decode cX7_answer 63 = .ok (.bipush 8, 2) := by decide +kernel
theorem dX7_answer_65 : decode cX7_answer 65 = .ok (.dup2, 1) := by decide +kernel
theorem dX7_answer_66 : decode cX7_answer 66 = .ok (.iaload, 1) := by decide +kernel
theorem dX7_answer_67 : decode cX7_answer 67 = .ok (.aload_n 0, 1) := by decide +kernel
theorem dX7_answer_68 : decode cX7_answer 68 = .ok (.getfield 92, 3) := by decide +kernel
theorem dX7_answer_71 : decode cX7_answer 71 = .ok (.iconst 1, 1) := by decide +kernel
theorem dX7_answer_72 : decode cX7_answer 72 = .ok (.if_icmp .ne 7, 3) := by decide +kernel
theorem dX7_answer_75 : decode cX7_answer 75 = .ok (.iconst 1, 1) := by decide +kernel
theorem dX7_answer_76 : decode cX7_answer 76 = .ok (.goto 4, 3) := by decide +kernel
theorem dX7_answer_79 : decode cX7_answer 79 = .ok (.iconst 0, 1) := by decide +kernel
theorem dX7_answer_80 : decode cX7_answer 80 = .ok (.iadd, 1) := by decide +kernel
theorem dX7_answer_81 : decode cX7_answer 81 = .ok (.iastore, 1) := by decide +kernel
theorem dX7_answer_82 : decode cX7_answer 82 = .ok (.aload_n 0, 1) := by decide +kernel
theorem dX7_answer_83 : decode cX7_answer 83 = .ok (.getfield 7, 3) := by decide +kernel
theorem dX7_answer_86 : decode cX7_answer 86 = .ok (.bipush 9, 2) := by decide +kernel
theorem dX7_answer_88 : decode cX7_answer 88 = .ok (.dup2, 1) := by decide +kernel
theorem dX7_answer_89 : decode cX7_answer 89 = .ok (.iaload, 1) := by decide +kernel
theorem dX7_answer_90 : decode cX7_answer 90 = .ok (.aload_n 0, 1) := by decide +kernel
theorem dX7_answer_91 : decode cX7_answer 91 = .ok (.getfield 92, 3) := by decide +kernel
theorem dX7_answer_94 : decode cX7_answer 94 = .ok (.iconst 1, 1) := by decide +kernel
theorem dX7_answer_95 : decode cX7_answer 95 = .ok (.if_icmp .le 7, 3) := by decide +kernel
theorem dX7_answer_98 : decode cX7_answer 98 = .ok (.iconst 1, 1) := by decide +kernel
theorem dX7_answer_99 : decode cX7_answer 99 = .ok (.goto 4, 3) := by decide +kernel
theorem dX7_answer_102 : decode cX7_answer 102 = .ok (.iconst 0, 1) := by decide +kernel
theorem dX7_answer_103 : decode cX7_answer 103 = .ok (.iadd, 1) := by decide +kernel
theorem dX7_answer_104 : decode cX7_answer 104 = .ok (.iastore, 1) := by decide +kernel
theorem dX7_answer_105 : decode cX7_answer 105 = .ok (.aload_n 0, 1) := by decide +kernel
theorem dX7_answer_106 : decode cX7_answer 106 = .ok (.getfield 92, 3) := by decide +kernel
theorem dX7_answer_109 : decode cX7_answer 109 = .ok (.iconst 1, 1) := by decide +kernel
theorem dX7_answer_110 : decode cX7_answer 110 = .ok (.if_icmp .ne 11, 3) := by decide +kernel
theorem dX7_answer_113 : decode cX7_answer 113 = .ok (.aload_n 0, 1) := by decide +kernel
theorem dX7_answer_114 : decode cX7_answer 114 = .ok (.aload_n 0, 1) := by decide +kernel
theorem dX7_answer_115 : decode cX7_answer 115 = .ok (.getfield 95, 3) := by decide +kernel
theorem dX7_answer_118 : decode cX7_answer 118 = .ok (.invokevirtual 107, 3) := by decide +kernel
theorem dX7_answer_121 : decode cX7_answer 121 = .ok (.aload_n 0, 1) := by decide +kernel
theorem dX7_answer_122 : decode cX7_answer 122 = .ok (.invokevirtual 110, 3) := by decide +kernel
theorem dX7_answer_125 : decode cX7_answer 125 = .ok (.iload_n 1, 1) := by decide +kernel
theorem dX7_answer_126 : decode cX7_answer 126 = .ok (.ireturn, 1) := by decide +kernel
theorem dX7_askNow_0 : decode cX7_askNow 0 = .ok (.aload_n 0, 1) := by decide +kernel
theorem dX7_askNow_1 : decode cX7_askNow 1 = .ok (.invokevirtual 113, 3) := by decide +kernel
theorem dX7_askNow_4 : decode cX7_askNow 4 = .ok (.iconst 0, 1) := by decide +kernel
theorem dX7_askNow_5 : decode cX7_askNow 5 = .ok (.istore_n 3, 1) := by decide +kernel
theorem dX7_askNow_6 : decode cX7_askNow 6 = .ok (.iload_n 3, 1) := by decide +kernel
theorem dX7_askNow_7 : decode cX7_askNow 7 = .ok (.aload_n 0, 1) := by decide +kernel
theorem dX7_askNow_8 : decode cX7_askNow 8 = .ok (.getfield 7, 3) := by decide +kernel
theorem dX7_askNow_11 : decode cX7_askNow 11 = .ok (.iconst 0, 1) := by decide +kernel
theorem dX7_askNow_12 : decode cX7_askNow 12 = .ok (.iaload, 1) := by decide +kernel
theorem dX7_askNow_13 : decode cX7_askNow 13 = .ok (.if_icmp .ge 38, 3) := by decide +kernel
theorem dX7_askNow_16 : decode cX7_askNow 16 = .ok (.aload_n 0, 1) := by decide +kernel
theorem dX7_askNow_17 : decode cX7_askNow 17 = .ok (.iload_n 3, 1) := by decide +kernel
theorem dX7_askNow_18 : decode cX7_askNow 18 = .ok (.iconst 1, 1) := by decide +kernel
theorem dX7_askNow_19 : decode cX7_askNow 19 = .ok (.invokevirtual 40, 3) := by decide +kernel
theorem dX7_askNow_22 : decode cX7_askNow 22 = .ok (.iconst 1, 1) := by decide +kernel
theorem dX7_askNow_23 : decode cX7_askNow 23 = .ok (.if_icmp .ne 22, 3) := by decide +kernel
theorem dX7_askNow_26 : decode cX7_askNow 26 = .ok (.aload_n 0, 1) := by decide +kernel
theorem dX7_askNow_27 : decode cX7_askNow 27 = .ok (.iload_n 3, 1) := by decide +kernel
theorem dX7_askNow_28 : decode cX7_askNow 28 = .ok (.iconst 0, 1) := by decide +kernel
theorem dX7_askNow_29 : decode cX7_askNow 29 = .ok (.invokevirtual 40, 3) := by decide +kernel
theorem dX7_askNow_32 : decode cX7_askNow 32 = .ok (.iload_n 1, 1) := by decide +kernel
theorem dX7_askNow_33 : decode cX7_askNow 33 = .ok (.iload_n 2, 1) := by decide +kernel
theorem dX7_askNow_34 : decode cX7_askNow 34 = .ok (.invokestatic 116, 3) := by decide +kernel
theorem dX7_askNow_37 : decode cX7_askNow 37 = .ok (.ifCond .eq 8, 3) := by decide +kernel
theorem dX7_askNow_40 : decode cX7_askNow 40 = .ok (.aload_n 0, 1) := by decide +kernel
theorem dX7_askNow_41 : decode cX7_askNow 41 = .ok (.iload_n 3, 1) := by decide +kernel
theorem dX7_askNow_42 : decode cX7_askNow 42 = .ok (.invokevirtual 119, 3) := by decide +kernel
theorem dX7_askNow_45 : decode cX7_askNow 45 = .ok (.iinc 3 1, 3) := by decide +kernel
theorem dX7_askNow_48 : decode cX7_askNow 48 = .ok (.goto (-42), 3) := by decide +kernel
theorem dX7_askNow_51 : decode cX7_askNow 51 = .ok (.aload_n 0, 1) := by decide +kernel
theorem dX7_askNow_52 : decode cX7_askNow 52 = .ok (.getfield 7, 3) := by decide +kernel
theorem dX7_askNow_55 : decode cX7_askNow 55 = .ok (.iconst 5, 1) := by decide +kernel
theorem dX7_askNow_56 : decode cX7_askNow 56 = .ok (.dup2, 1) := by decide +kernel
theorem dX7_askNow_57 : decode cX7_askNow 57 = .ok (.iaload, 1) := by decide +kernel
theorem dX7_askNow_58 : decode cX7_askNow 58 = .ok (.iconst 1, 1) := by decide +kernel
theorem dX7_askNow_59 : decode cX7_askNow 59 = .ok (.iadd, 1) := by decide +kernel
theorem dX7_askNow_60 : decode cX7_askNow 60 = .ok (.iastore, 1) := by decide +kernel
theorem dX7_askNow_61 : decode cX7_askNow 61 = .ok (.aload_n 0, 1) := by decide +kernel
theorem dX7_askNow_62 : decode cX7_askNow 62 = .ok (.getfield 7, 3) := by decide +kernel
theorem dX7_askNow_65 : decode cX7_askNow 65 = .ok (.bipush 10, 2) := by decide +kernel
theorem dX7_askNow_67 : decode cX7_askNow 67 = .ok (.dup2, 1) := by decide +kernel
theorem dX7_askNow_68 : decode cX7_askNow 68 = .ok (.iaload, 1) := by decide +kernel
theorem dX7_askNow_69 : decode cX7_askNow 69 = .ok (.iconst 4, 1) := by decide +kernel
theorem dX7_askNow_70 : decode cX7_askNow 70 = .ok (.iload_n 1, 1) := by decide +kernel
theorem dX7_askNow_71 : decode cX7_askNow 71 = .ok (.iadd, 1) := by decide +kernel
theorem dX7_askNow_72 : decode cX7_askNow 72 = .ok (.aload_n 0, 1) := by decide +kernel
theorem dX7_askNow_73 : decode cX7_askNow 73 = .ok (.getfield 92, 3) := by decide +kernel
theorem dX7_askNow_76 : decode cX7_askNow 76 = .ok (.ifCond .ne 7, 3) := by decide +kernel
theorem dX7_askNow_79 : decode cX7_askNow 79 = .ok (.iconst 2, 1) := by decide +kernel
theorem dX7_askNow_80 : decode cX7_askNow 80 = .ok (.goto 17, 3) := by decide +kernel
theorem dX7_askNow_83 : decode cX7_askNow 83 = .ok (.iload_n 1, 1) := by decide +kernel
theorem dX7_askNow_84 : decode cX7_askNow 84 = .ok (.bipush 8, 2) := by decide +kernel
theorem dX7_askNow_86 : decode cX7_askNow 86 = .ok (.if_icmp .ne 7, 3) := by decide +kernel
theorem dX7_askNow_89 : decode cX7_askNow 89 = .ok (.iconst 1, 1) := by decide +kernel
theorem dX7_askNow_90 : decode cX7_askNow 90 = .ok (.goto 7, 3) := by decide +kernel
theorem dX7_askNow_93 : decode cX7_askNow 93 = .ok (.bipush 8, 2) := by decide +kernel
theorem dX7_askNow_95 : decode cX7_askNow 95 = .ok (.iload_n 1, 1) := by decide +kernel
theorem dX7_askNow_96 : decode cX7_askNow 96 = .ok (.isub, 1) := by decide +kernel
theorem dX7_askNow_97 : decode cX7_askNow 97 = .ok (.iadd, 1) := by decide +kernel
theorem dX7_askNow_98 : decode cX7_askNow 98 = .ok (.iadd, 1) := by decide +kernel
theorem dX7_askNow_99 : decode cX7_askNow 99 = .ok (.iastore, 1) := by decide +kernel
theorem dX7_askNow_100 : decode cX7_askNow 100 = .ok (.aload_n 0, 1) := by decide +kernel
theorem dX7_askNow_101 : decode cX7_askNow 101 = .ok (.invokevirtual 122, 3) := by decide +kernel
theorem dX7_askNow_104 : decode cX7_askNow 104 = .ok (.ireturn, 1) := by decide +kernel
theorem dX7_isBeginning_0 : decode cX7_isBeginning 0 = .ok (.iload_n 0, 1) := by decide +kernel
theorem dX7_isBeginning_1 : decode cX7_isBeginning 1 = .ok (.iconst 0, 1) := by decide +kernel
theorem dX7_isBeginning_2 : decode cX7_isBeginning 2 = .ok (.bipush 8, 2) := by decide +kernel
theorem dX7_isBeginning_4 : decode cX7_isBeginning 4 = .ok (.invokestatic 63, 3) := by decide +kernel
theorem dX7_isBeginning_7 : decode cX7_isBeginning 7 = .ok (.ifCond .eq 20, 3) := by decide +kernel
theorem dX7_isBeginning_10 : decode cX7_isBeginning 10 = .ok (.iload_n 1, 1) := by decide +kernel
theorem dX7_isBeginning_11 : decode cX7_isBeginning 11 = .ok (.iconst 0, 1) := by decide +kernel
theorem dX7_isBeginning_12 : decode cX7_isBeginning 12 = .ok (.iconst 1, 1) := by decide +kernel
theorem dX7_isBeginning_13 : decode cX7_isBeginning 13 = .ok (.iload_n 0, 1) := by decide +kernel
theorem dX7_isBeginning_14 : decode cX7_isBeginning 14 = .ok (.ishl, 1) := by decide +kernel
theorem dX7_isBeginning_15 : decode cX7_isBeginning 15 = .ok (.iconst 1, 1) := by decide +kernel
theorem dX7_isBeginning_16 : decode cX7_isBeginning 16 = .ok (.isub, 1) := by decide +kernel
theorem dX7_isBeginning_17 : decode cX7_isBeginning 17 = .ok (.invokestatic 63, 3) := by decide +kernel
theorem dX7_isBeginning_20 : decode cX7_isBeginning 20 = .ok (.ifCond .eq 7, 3) := by decide +kernel
theorem dX7_isBeginning_23 : decode cX7_isBeginning 23 = .ok (.iconst 1, 1) := by decide +kernel
theorem dX7_isBeginning_24 : decode cX7_isBeginning 24 = .ok (.goto 4, 3) := by decide +kernel
theorem dX7_isBeginning_27 : decode cX7_isBeginning 27 = .ok (.iconst 0, 1) := by decide +kernel
theorem dX7_isBeginning_28 : decode cX7_isBeginning 28 = .ok (.ireturn, 1) := by decide +kernel
theorem dX7_ask_0 : decode cX7_ask 0 = .ok (.iload_n 1, 1) := by decide +kernel
theorem dX7_ask_1 : decode cX7_ask 1 = .ok (.iload_n 2, 1) := by decide +kernel
theorem dX7_ask_2 : decode cX7_ask 2 = .ok (.invokestatic 125, 3) := by decide +kernel
theorem dX7_ask_5 : decode cX7_ask 5 = .ok (.ifCond .ne 6, 3) := by decide +kernel
theorem dX7_ask_8 : decode cX7_ask 8 = .ok (.bipush (-2), 2) := by decide +kernel
theorem dX7_ask_10 : decode cX7_ask 10 = .ok (.ireturn, 1) := by decide +kernel
theorem dX7_ask_11 : decode cX7_ask 11 = .ok (.aload_n 0, 1) := by decide +kernel
theorem dX7_ask_12 : decode cX7_ask 12 = .ok (.invokevirtual 60, 3) := by decide +kernel
theorem dX7_ask_15 : decode cX7_ask 15 = .ok (.aload_n 0, 1) := by decide +kernel
theorem dX7_ask_16 : decode cX7_ask 16 = .ok (.iload_n 1, 1) := by decide +kernel
theorem dX7_ask_17 : decode cX7_ask 17 = .ok (.iload_n 2, 1) := by decide +kernel
theorem dX7_ask_18 : decode cX7_ask 18 = .ok (.invokevirtual 129, 3) := by decide +kernel
theorem dX7_ask_21 : decode cX7_ask 21 = .ok (.ireturn, 1) := by decide +kernel
theorem dX7_walkNow_0 : decode cX7_walkNow 0 = .ok (.iconst 1, 1) := by decide +kernel
theorem dX7_walkNow_1 : decode cX7_walkNow 1 = .ok (.istore_n 2, 1) := by decide +kernel
theorem dX7_walkNow_2 : decode cX7_walkNow 2 = .ok (.aload_n 0, 1) := by decide +kernel
theorem dX7_walkNow_3 : decode cX7_walkNow 3 = .ok (.getfield 25, 3) := by decide +kernel
theorem dX7_walkNow_6 : decode cX7_walkNow 6 = .ok (.iconst 0, 1) := by decide +kernel
theorem dX7_walkNow_7 : decode cX7_walkNow 7 = .ok (.iconst 0, 1) := by decide +kernel
theorem dX7_walkNow_8 : decode cX7_walkNow 8 = .ok (.iastore, 1) := by decide +kernel
theorem dX7_walkNow_9 : decode cX7_walkNow 9 = .ok (.aload_n 0, 1) := by decide +kernel
theorem dX7_walkNow_10 : decode cX7_walkNow 10 = .ok (.iconst 0, 1) := by decide +kernel
theorem dX7_walkNow_11 : decode cX7_walkNow 11 = .ok (.putfield 132, 3) := by decide +kernel
theorem dX7_walkNow_14 : decode cX7_walkNow 14 = .ok (.iload_n 2, 1) := by decide +kernel
theorem dX7_walkNow_15 : decode cX7_walkNow 15 = .ok (.ifCond .le 142, 3) := by decide +kernel
theorem dX7_walkNow_18 : decode cX7_walkNow 18 = .ok (.iinc 2 (-1), 3) := by decide +kernel
theorem dX7_walkNow_21 : decode cX7_walkNow 21 = .ok (.aload_n 0, 1) := by decide +kernel
theorem dX7_walkNow_22 : decode cX7_walkNow 22 = .ok (.getfield 25, 3) := by decide +kernel
theorem dX7_walkNow_25 : decode cX7_walkNow 25 = .ok (.iload_n 2, 1) := by decide +kernel
theorem dX7_walkNow_26 : decode cX7_walkNow 26 = .ok (.iaload, 1) := by decide +kernel
theorem dX7_walkNow_27 : decode cX7_walkNow 27 = .ok (.sipush 256, 3) := by decide +kernel
theorem dX7_walkNow_30 : decode cX7_walkNow 30 = .ok (.idiv, 1) := by decide +kernel
theorem dX7_walkNow_31 : decode cX7_walkNow 31 = .ok (.istore_n 3, 1) := by decide +kernel
theorem dX7_walkNow_32 : decode cX7_walkNow 32 = .ok (.aload_n 0, 1) := by decide +kernel
theorem dX7_walkNow_33 : decode cX7_walkNow 33 = .ok (.getfield 25, 3) := by decide +kernel
theorem dX7_walkNow_36 : decode cX7_walkNow 36 = .ok (.iload_n 2, 1) := by decide +kernel
theorem dX7_walkNow_37 : decode cX7_walkNow 37 = .ok (.iaload, 1) := by decide +kernel
theorem dX7_walkNow_38 : decode cX7_walkNow 38 = .ok (.sipush 256, 3) := by decide +kernel
theorem dX7_walkNow_41 : decode cX7_walkNow 41 = .ok (.irem, 1) := by decide +kernel
theorem dX7_walkNow_42 : decode cX7_walkNow 42 = .ok (.istore 4, 2) := by decide +kernel
theorem dX7_walkNow_44 : decode cX7_walkNow 44 = .ok (.aload_n 0, 1) := by decide +kernel
theorem dX7_walkNow_45 : decode cX7_walkNow 45 = .ok (.iload_n 3, 1) := by decide +kernel
theorem dX7_walkNow_46 : decode cX7_walkNow 46 = .ok (.aload_n 0, 1) := by decide +kernel
theorem dX7_walkNow_47 : decode cX7_walkNow 47 = .ok (.getfield 132, 3) := by decide +kernel
theorem dX7_walkNow_50 : decode cX7_walkNow 50 = .ok (.if_icmp .le 7, 3) := by decide +kernel
theorem dX7_walkNow_53 : decode cX7_walkNow 53 = .ok (.iload_n 3, 1) := by decide +kernel
theorem dX7_walkNow_54 : decode cX7_walkNow 54 = .ok (.goto 7, 3) := by decide +kernel
theorem dX7_walkNow_57 : decode cX7_walkNow 57 = .ok (.aload_n 0, 1) := by decide +kernel
theorem dX7_walkNow_58 : decode cX7_walkNow 58 = .ok (.getfield 132, 3) := by decide +kernel
theorem dX7_walkNow_61 : decode cX7_walkNow 61 = .ok (.putfield 132, 3) := by decide +kernel
theorem dX7_walkNow_64 : decode cX7_walkNow 64 = .ok (.aload_n 0, 1) := by decide +kernel
theorem dX7_walkNow_65 : decode cX7_walkNow 65 = .ok (.iload_n 3, 1) := by decide +kernel
theorem dX7_walkNow_66 : decode cX7_walkNow 66 = .ok (.iload 4, 2) := by decide +kernel
theorem dX7_walkNow_68 : decode cX7_walkNow 68 = .ok (.invokevirtual 129, 3) := by decide +kernel
theorem dX7_walkNow_71 : decode cX7_walkNow 71 = .ok (.istore 5, 2) := by decide +kernel
theorem dX7_walkNow_73 : decode cX7_walkNow 73 = .ok (.iload 5, 2) := by decide +kernel
theorem dX7_walkNow_75 : decode cX7_walkNow 75 = .ok (.sipush 400, 3) := by decide +kernel
theorem dX7_walkNow_78 : decode cX7_walkNow 78 = .ok (.if_icmp .lt 76, 3) := by decide +kernel
theorem dX7_walkNow_81 : decode cX7_walkNow 81 = .ok (.iload_n 1, 1) := by decide +kernel
theorem dX7_walkNow_82 : decode cX7_walkNow 82 = .ok (.ifCond .eq 12, 3) := by decide +kernel
theorem dX7_walkNow_85 : decode cX7_walkNow 85 = .ok (.iload 5, 2) := by decide +kernel
theorem dX7_walkNow_87 : decode cX7_walkNow 87 = .ok (.sipush 400, 3) := by decide +kernel
theorem dX7_walkNow_90 : decode cX7_walkNow 90 = .ok (.isub, 1) := by decide +kernel
theorem dX7_walkNow_91 : decode cX7_walkNow 91 = .ok (.goto 4, 3) := by decide +kernel
theorem dX7_walkNow_94 : decode cX7_walkNow 94 = .ok (.iload_n 3, 1) := by decide +kernel
theorem dX7_walkNow_95 : decode cX7_walkNow 95 = .ok (.istore 6, 2) := by decide +kernel
theorem dX7_walkNow_97 : decode cX7_walkNow 97 = .ok (.aload_n 0, 1) := by decide +kernel
theorem dX7_walkNow_98 : decode cX7_walkNow 98 = .ok (.getfield 98, 3) := by decide +kernel
theorem dX7_walkNow_101 : decode cX7_walkNow 101 = .ok (.bipush 8, 2) := by decide +kernel
theorem dX7_walkNow_103 : decode cX7_walkNow 103 = .ok (.iload 6, 2) := by decide +kernel
theorem dX7_walkNow_105 : decode cX7_walkNow 105 = .ok (.isub, 1) := by decide +kernel
theorem dX7_walkNow_106 : decode cX7_walkNow 106 = .ok (.ishr, 1) := by decide +kernel
theorem dX7_walkNow_107 : decode cX7_walkNow 107 = .ok (.istore 7, 2) := by decide +kernel
theorem dX7_walkNow_109 : decode cX7_walkNow 109 = .ok (.aload_n 0, 1) := by decide +kernel
theorem dX7_walkNow_110 : decode cX7_walkNow 110 = .ok (.getfield 25, 3) := by decide +kernel
theorem dX7_walkNow_113 : decode cX7_walkNow 113 = .ok (.iload_n 2, 1) := by decide +kernel
theorem dX7_walkNow_114 : decode cX7_walkNow 114 = .ok (.sipush 256, 3) := by decide +kernel
theorem dX7_walkNow_117 : decode cX7_walkNow 117 = .ok (.iload 6, 2) := by decide +kernel
theorem dX7_walkNow_119 : decode cX7_walkNow 119 = .ok (.iconst 1, 1) := by decide +kernel
theorem dX7_walkNow_120 : decode cX7_walkNow 120 = .ok (.iadd, 1) := by decide +kernel
theorem dX7_walkNow_121 : decode cX7_walkNow 121 = .ok (.imul, 1) := by decide +kernel
theorem dX7_walkNow_122 : decode cX7_walkNow 122 = .ok (.iconst 2, 1) := by decide +kernel
theorem dX7_walkNow_123 : decode cX7_walkNow 123 = .ok (.iload 7, 2) := by decide +kernel
theorem dX7_walkNow_125 : decode cX7_walkNow 125 = .ok (.imul, 1) := by decide +kernel
theorem dX7_walkNow_126 : decode cX7_walkNow 126 = .ok (.iadd, 1) := by decide +kernel
theorem dX7_walkNow_127 : decode cX7_walkNow 127 = .ok (.iconst 1, 1) := by decide +kernel
theorem dX7_walkNow_128 : decode cX7_walkNow 128 = .ok (.iadd, 1) := by decide +kernel
theorem dX7_walkNow_129 : decode cX7_walkNow 129 = .ok (.iastore, 1) := by decide +kernel
theorem dX7_walkNow_130 : decode cX7_walkNow 130 = .ok (.aload_n 0, 1) := by decide +kernel
theorem dX7_walkNow_131 : decode cX7_walkNow 131 = .ok (.getfield 25, 3) := by decide +kernel
theorem dX7_walkNow_134 : decode cX7_walkNow 134 = .ok (.iload_n 2, 1) := by decide +kernel
theorem dX7_walkNow_135 : decode cX7_walkNow 135 = .ok (.iconst 1, 1) := by decide +kernel
theorem dX7_walkNow_136 : decode cX7_walkNow 136 = .ok (.iadd, 1) := by decide +kernel
theorem dX7_walkNow_137 : decode cX7_walkNow 137 = .ok (.sipush 256, 3) := by decide +kernel
theorem dX7_walkNow_140 : decode cX7_walkNow 140 = .ok (.iload 6, 2) := by decide +kernel
theorem dX7_walkNow_142 : decode cX7_walkNow 142 = .ok (.iconst 1, 1) := by decide +kernel
theorem dX7_walkNow_143 : decode cX7_walkNow 143 = .ok (.iadd, 1) := by decide +kernel
theorem dX7_walkNow_144 : decode cX7_walkNow 144 = .ok (.imul, 1) := by decide +kernel
theorem dX7_walkNow_145 : decode cX7_walkNow 145 = .ok (.iconst 2, 1) := by decide +kernel
theorem dX7_walkNow_146 : decode cX7_walkNow 146 = .ok (.iload 7, 2) := by decide +kernel
theorem dX7_walkNow_148 : decode cX7_walkNow 148 = .ok (.imul, 1) := by decide +kernel
theorem dX7_walkNow_149 : decode cX7_walkNow 149 = .ok (.iadd, 1) := by decide +kernel
theorem dX7_walkNow_150 : decode cX7_walkNow 150 = .ok (.iastore, 1) := by decide +kernel
theorem dX7_walkNow_151 : decode cX7_walkNow 151 = .ok (.iinc 2 2, 3) := by decide +kernel
theorem dX7_walkNow_154 : decode cX7_walkNow 154 = .ok (.goto (-140), 3) := by decide +kernel
theorem dX7_walkNow_157 : decode cX7_walkNow 157 = .ok (.return_, 1) := by decide +kernel
theorem dX7_walk_0 : decode cX7_walk 0 = .ok (.aload_n 0, 1) := by decide +kernel
theorem dX7_walk_1 : decode cX7_walk 1 = .ok (.invokevirtual 60, 3) := by decide +kernel
theorem dX7_walk_4 : decode cX7_walk 4 = .ok (.aload_n 0, 1) := by decide +kernel
theorem dX7_walk_5 : decode cX7_walk 5 = .ok (.getfield 7, 3) := by decide +kernel
theorem dX7_walk_8 : decode cX7_walk 8 = .ok (.bipush 8, 2) := by decide +kernel
theorem dX7_walk_10 : decode cX7_walk 10 = .ok (.iaload, 1) := by decide +kernel
theorem dX7_walk_11 : decode cX7_walk 11 = .ok (.istore_n 2, 1) := by decide +kernel
theorem dX7_walk_12 : decode cX7_walk 12 = .ok (.aload_n 0, 1) := by decide +kernel
theorem dX7_walk_13 : decode cX7_walk 13 = .ok (.iload_n 1, 1) := by decide +kernel
theorem dX7_walk_14 : decode cX7_walk 14 = .ok (.invokevirtual 135, 3) := by decide +kernel
theorem dX7_walk_17 : decode cX7_walk 17 = .ok (.aload_n 0, 1) := by decide +kernel
theorem dX7_walk_18 : decode cX7_walk 18 = .ok (.getfield 7, 3) := by decide +kernel
theorem dX7_walk_21 : decode cX7_walk 21 = .ok (.bipush 8, 2) := by decide +kernel
theorem dX7_walk_23 : decode cX7_walk 23 = .ok (.iaload, 1) := by decide +kernel
theorem dX7_walk_24 : decode cX7_walk 24 = .ok (.iload_n 2, 1) := by decide +kernel
theorem dX7_walk_25 : decode cX7_walk 25 = .ok (.isub, 1) := by decide +kernel
theorem dX7_walk_26 : decode cX7_walk 26 = .ok (.ireturn, 1) := by decide +kernel
theorem dX7_draw_0 : decode cX7_draw 0 = .ok (.aload_n 0, 1) := by decide +kernel
theorem dX7_draw_1 : decode cX7_draw 1 = .ok (.getfield 7, 3) := by decide +kernel
theorem dX7_draw_4 : decode cX7_draw 4 = .ok (.iconst 4, 1) := by decide +kernel
theorem dX7_draw_5 : decode cX7_draw 5 = .ok (.aload_n 0, 1) := by decide +kernel
theorem dX7_draw_6 : decode cX7_draw 6 = .ok (.getfield 7, 3) := by decide +kernel
theorem dX7_draw_9 : decode cX7_draw 9 = .ok (.iconst 4, 1) := by decide +kernel
theorem dX7_draw_10 : decode cX7_draw 10 = .ok (.iaload, 1) := by decide +kernel
theorem dX7_draw_11 : decode cX7_draw 11 = .ok (.i2l, 1) := by decide +kernel
theorem dX7_draw_12 : decode cX7_draw 12 = .ok (.ldc2_w 139, 3) := by decide +kernel
theorem dX7_draw_15 : decode cX7_draw 15 = .ok (.lmul, 1) := by decide +kernel
theorem dX7_draw_16 : decode cX7_draw 16 = .ok (.ldc2_w 141, 3) := by decide +kernel
theorem dX7_draw_19 : decode cX7_draw 19 = .ok (.ladd, 1) := by decide +kernel
theorem dX7_draw_20 : decode cX7_draw 20 = .ok (.ldc2_w 143, 3) := by decide +kernel
theorem dX7_draw_23 : decode cX7_draw 23 = .ok (.lrem, 1) := by decide +kernel
theorem dX7_draw_24 : decode cX7_draw 24 = .ok (.l2i, 1) := by decide +kernel
theorem dX7_draw_25 : decode cX7_draw 25 = .ok (.iastore, 1) := by decide +kernel
theorem dX7_draw_26 : decode cX7_draw 26 = .ok (.aload_n 0, 1) := by decide +kernel
theorem dX7_draw_27 : decode cX7_draw 27 = .ok (.getfield 7, 3) := by decide +kernel
theorem dX7_draw_30 : decode cX7_draw 30 = .ok (.iconst 4, 1) := by decide +kernel
theorem dX7_draw_31 : decode cX7_draw 31 = .ok (.iaload, 1) := by decide +kernel
theorem dX7_draw_32 : decode cX7_draw 32 = .ok (.ldc 145, 2) := by decide +kernel
theorem dX7_draw_34 : decode cX7_draw 34 = .ok (.idiv, 1) := by decide +kernel
theorem dX7_draw_35 : decode cX7_draw 35 = .ok (.iload_n 1, 1) := by decide +kernel
theorem dX7_draw_36 : decode cX7_draw 36 = .ok (.irem, 1) := by decide +kernel
theorem dX7_draw_37 : decode cX7_draw 37 = .ok (.ireturn, 1) := by decide +kernel
theorem dX7_frameNow_0 : decode cX7_frameNow 0 = .ok (.iconst 0, 1) := by decide +kernel
theorem dX7_frameNow_1 : decode cX7_frameNow 1 = .ok (.istore_n 2, 1) := by decide +kernel
theorem dX7_frameNow_2 : decode cX7_frameNow 2 = .ok (.iconst 0, 1) := by decide +kernel
theorem dX7_frameNow_3 : decode cX7_frameNow 3 = .ok (.istore_n 3, 1) := by decide +kernel
theorem dX7_frameNow_4 : decode cX7_frameNow 4 = .ok (.iload_n 3, 1) := by decide +kernel
theorem dX7_frameNow_5 : decode cX7_frameNow 5 = .ok (.aload_n 0, 1) := by decide +kernel
theorem dX7_frameNow_6 : decode cX7_frameNow 6 = .ok (.getfield 7, 3) := by decide +kernel
theorem dX7_frameNow_9 : decode cX7_frameNow 9 = .ok (.iconst 0, 1) := by decide +kernel
theorem dX7_frameNow_10 : decode cX7_frameNow 10 = .ok (.iaload, 1) := by decide +kernel
theorem dX7_frameNow_11 : decode cX7_frameNow 11 = .ok (.if_icmp .ge 45, 3) := by decide +kernel
theorem dX7_frameNow_14 : decode cX7_frameNow 14 = .ok (.aload_n 0, 1) := by decide +kernel
theorem dX7_frameNow_15 : decode cX7_frameNow 15 = .ok (.iload_n 3, 1) := by decide +kernel
theorem dX7_frameNow_16 : decode cX7_frameNow 16 = .ok (.iconst 1, 1) := by decide +kernel
theorem dX7_frameNow_17 : decode cX7_frameNow 17 = .ok (.invokevirtual 40, 3) := by decide +kernel
theorem dX7_frameNow_20 : decode cX7_frameNow 20 = .ok (.iconst 1, 1) := by decide +kernel
theorem dX7_frameNow_21 : decode cX7_frameNow 21 = .ok (.if_icmp .ne 29, 3) := by decide +kernel
theorem dX7_frameNow_24 : decode cX7_frameNow 24 = .ok (.aload_n 0, 1) := by decide +kernel
theorem dX7_frameNow_25 : decode cX7_frameNow 25 = .ok (.getfield 28, 3) := by decide +kernel
theorem dX7_frameNow_28 : decode cX7_frameNow 28 = .ok (.iload_n 2, 1) := by decide +kernel
theorem dX7_frameNow_29 : decode cX7_frameNow 29 = .ok (.aload_n 0, 1) := by decide +kernel
theorem dX7_frameNow_30 : decode cX7_frameNow 30 = .ok (.iload_n 3, 1) := by decide +kernel
theorem dX7_frameNow_31 : decode cX7_frameNow 31 = .ok (.iconst 0, 1) := by decide +kernel
theorem dX7_frameNow_32 : decode cX7_frameNow 32 = .ok (.invokevirtual 40, 3) := by decide +kernel
theorem dX7_frameNow_35 : decode cX7_frameNow 35 = .ok (.iastore, 1) := by decide +kernel
theorem dX7_frameNow_36 : decode cX7_frameNow 36 = .ok (.aload_n 0, 1) := by decide +kernel
theorem dX7_frameNow_37 : decode cX7_frameNow 37 = .ok (.getfield 31, 3) := by decide +kernel
theorem dX7_frameNow_40 : decode cX7_frameNow 40 = .ok (.iload_n 2, 1) := by decide +kernel
theorem dX7_frameNow_41 : decode cX7_frameNow 41 = .ok (.aload_n 0, 1) := by decide +kernel
theorem dX7_frameNow_42 : decode cX7_frameNow 42 = .ok (.iload_n 1, 1) := by decide +kernel
theorem dX7_frameNow_43 : decode cX7_frameNow 43 = .ok (.invokevirtual 146, 3) := by decide +kernel
theorem dX7_frameNow_46 : decode cX7_frameNow 46 = .ok (.iastore, 1) := by decide +kernel
theorem dX7_frameNow_47 : decode cX7_frameNow 47 = .ok (.iinc 2 1, 3) := by decide +kernel
theorem dX7_frameNow_50 : decode cX7_frameNow 50 = .ok (.iinc 3 1, 3) := by decide +kernel
theorem dX7_frameNow_53 : decode cX7_frameNow 53 = .ok (.goto (-49), 3) := by decide +kernel
theorem dX7_frameNow_56 : decode cX7_frameNow 56 = .ok (.aload_n 0, 1) := by decide +kernel
theorem dX7_frameNow_57 : decode cX7_frameNow 57 = .ok (.getfield 7, 3) := by decide +kernel
theorem dX7_frameNow_60 : decode cX7_frameNow 60 = .ok (.bipush 11, 2) := by decide +kernel
theorem dX7_frameNow_62 : decode cX7_frameNow 62 = .ok (.dup2, 1) := by decide +kernel
theorem dX7_frameNow_63 : decode cX7_frameNow 63 = .ok (.iaload, 1) := by decide +kernel
theorem dX7_frameNow_64 : decode cX7_frameNow 64 = .ok (.iconst 1, 1) := by decide +kernel
theorem dX7_frameNow_65 : decode cX7_frameNow 65 = .ok (.iadd, 1) := by decide +kernel
theorem dX7_frameNow_66 : decode cX7_frameNow 66 = .ok (.iastore, 1) := by decide +kernel
theorem dX7_frameNow_67 : decode cX7_frameNow 67 = .ok (.aload_n 0, 1) := by decide +kernel
theorem dX7_frameNow_68 : decode cX7_frameNow 68 = .ok (.getfield 7, 3) := by decide +kernel
theorem dX7_frameNow_71 : decode cX7_frameNow 71 = .ok (.bipush 10, 2) := by decide +kernel
theorem dX7_frameNow_73 : decode cX7_frameNow 73 = .ok (.dup2, 1) := by decide +kernel
theorem dX7_frameNow_74 : decode cX7_frameNow 74 = .ok (.iaload, 1) := by decide +kernel
theorem dX7_frameNow_75 : decode cX7_frameNow 75 = .ok (.iconst 4, 1) := by decide +kernel
theorem dX7_frameNow_76 : decode cX7_frameNow 76 = .ok (.iadd, 1) := by decide +kernel
theorem dX7_frameNow_77 : decode cX7_frameNow 77 = .ok (.iastore, 1) := by decide +kernel
theorem dX7_frameNow_78 : decode cX7_frameNow 78 = .ok (.iconst 0, 1) := by decide +kernel
theorem dX7_frameNow_79 : decode cX7_frameNow 79 = .ok (.istore_n 3, 1) := by decide +kernel
theorem dX7_frameNow_80 : decode cX7_frameNow 80 = .ok (.iload_n 3, 1) := by decide +kernel
theorem dX7_frameNow_81 : decode cX7_frameNow 81 = .ok (.iload_n 1, 1) := by decide +kernel
theorem dX7_frameNow_82 : decode cX7_frameNow 82 = .ok (.if_icmp .ge 104, 3) := by decide +kernel
theorem dX7_frameNow_85 : decode cX7_frameNow 85 = .ok (.aload_n 0, 1) := by decide +kernel
theorem dX7_frameNow_86 : decode cX7_frameNow 86 = .ok (.invokevirtual 113, 3) := by decide +kernel
theorem dX7_frameNow_89 : decode cX7_frameNow 89 = .ok (.iconst 0, 1) := by decide +kernel
theorem dX7_frameNow_90 : decode cX7_frameNow 90 = .ok (.istore 4, 2) := by decide +kernel
theorem dX7_frameNow_92 : decode cX7_frameNow 92 = .ok (.iload 4, 2) := by decide +kernel
theorem dX7_frameNow_94 : decode cX7_frameNow 94 = .ok (.iload_n 2, 1) := by decide +kernel
theorem dX7_frameNow_95 : decode cX7_frameNow 95 = .ok (.if_icmp .ge 46, 3) := by decide +kernel
theorem dX7_frameNow_98 : decode cX7_frameNow 98 = .ok (.aload_n 0, 1) := by decide +kernel
theorem dX7_frameNow_99 : decode cX7_frameNow 99 = .ok (.aload_n 0, 1) := by decide +kernel
theorem dX7_frameNow_100 : decode cX7_frameNow 100 = .ok (.getfield 28, 3) := by decide +kernel
theorem dX7_frameNow_103 : decode cX7_frameNow 103 = .ok (.iload 4, 2) := by decide +kernel
theorem dX7_frameNow_105 : decode cX7_frameNow 105 = .ok (.iaload, 1) := by decide +kernel
theorem dX7_frameNow_106 : decode cX7_frameNow 106 = .ok (.invokevirtual 67, 3) := by decide +kernel
theorem dX7_frameNow_109 : decode cX7_frameNow 109 = .ok (.istore 5, 2) := by decide +kernel
theorem dX7_frameNow_111 : decode cX7_frameNow 111 = .ok (.aload_n 0, 1) := by decide +kernel
theorem dX7_frameNow_112 : decode cX7_frameNow 112 = .ok (.getfield 31, 3) := by decide +kernel
theorem dX7_frameNow_115 : decode cX7_frameNow 115 = .ok (.iload 4, 2) := by decide +kernel
theorem dX7_frameNow_117 : decode cX7_frameNow 117 = .ok (.iaload, 1) := by decide +kernel
theorem dX7_frameNow_118 : decode cX7_frameNow 118 = .ok (.iload_n 3, 1) := by decide +kernel
theorem dX7_frameNow_119 : decode cX7_frameNow 119 = .ok (.if_icmp .ne 16, 3) := by decide +kernel
theorem dX7_frameNow_122 : decode cX7_frameNow 122 = .ok (.iload 5, 2) := by decide +kernel
theorem dX7_frameNow_124 : decode cX7_frameNow 124 = .ok (.bipush (-5), 2) := by decide +kernel
theorem dX7_frameNow_126 : decode cX7_frameNow 126 = .ok (.if_icmp .eq 9, 3) := by decide +kernel
theorem dX7_frameNow_129 : decode cX7_frameNow 129 = .ok (.aload_n 0, 1) := by decide +kernel
theorem dX7_frameNow_130 : decode cX7_frameNow 130 = .ok (.iload 5, 2) := by decide +kernel
theorem dX7_frameNow_132 : decode cX7_frameNow 132 = .ok (.invokevirtual 119, 3) := by decide +kernel
theorem dX7_frameNow_135 : decode cX7_frameNow 135 = .ok (.iinc 4 1, 3) := by decide +kernel
theorem dX7_frameNow_138 : decode cX7_frameNow 138 = .ok (.goto (-46), 3) := by decide +kernel
theorem dX7_frameNow_141 : decode cX7_frameNow 141 = .ok (.aload_n 0, 1) := by decide +kernel
theorem dX7_frameNow_142 : decode cX7_frameNow 142 = .ok (.getfield 7, 3) := by decide +kernel
theorem dX7_frameNow_145 : decode cX7_frameNow 145 = .ok (.bipush 6, 2) := by decide +kernel
theorem dX7_frameNow_147 : decode cX7_frameNow 147 = .ok (.dup2, 1) := by decide +kernel
theorem dX7_frameNow_148 : decode cX7_frameNow 148 = .ok (.iaload, 1) := by decide +kernel
theorem dX7_frameNow_149 : decode cX7_frameNow 149 = .ok (.iconst 1, 1) := by decide +kernel
theorem dX7_frameNow_150 : decode cX7_frameNow 150 = .ok (.iadd, 1) := by decide +kernel
theorem dX7_frameNow_151 : decode cX7_frameNow 151 = .ok (.iastore, 1) := by decide +kernel
theorem dX7_frameNow_152 : decode cX7_frameNow 152 = .ok (.aload_n 0, 1) := by decide +kernel
theorem dX7_frameNow_153 : decode cX7_frameNow 153 = .ok (.getfield 7, 3) := by decide +kernel
theorem dX7_frameNow_156 : decode cX7_frameNow 156 = .ok (.bipush 10, 2) := by decide +kernel
theorem dX7_frameNow_158 : decode cX7_frameNow 158 = .ok (.dup2, 1) := by decide +kernel
theorem dX7_frameNow_159 : decode cX7_frameNow 159 = .ok (.iaload, 1) := by decide +kernel
theorem dX7_frameNow_160 : decode cX7_frameNow 160 = .ok (.aload_n 0, 1) := by decide +kernel
theorem dX7_frameNow_161 : decode cX7_frameNow 161 = .ok (.getfield 92, 3) := by decide +kernel
theorem dX7_frameNow_164 : decode cX7_frameNow 164 = .ok (.ifCond .ne 7, 3) := by decide +kernel
theorem dX7_frameNow_167 : decode cX7_frameNow 167 = .ok (.iconst 1, 1) := by decide +kernel
theorem dX7_frameNow_168 : decode cX7_frameNow 168 = .ok (.goto 5, 3) := by decide +kernel
theorem dX7_frameNow_171 : decode cX7_frameNow 171 = .ok (.bipush 9, 2) := by decide +kernel
theorem dX7_frameNow_173 : decode cX7_frameNow 173 = .ok (.iadd, 1) := by decide +kernel
theorem dX7_frameNow_174 : decode cX7_frameNow 174 = .ok (.iastore, 1) := by decide +kernel
theorem dX7_frameNow_175 : decode cX7_frameNow 175 = .ok (.aload_n 0, 1) := by decide +kernel
theorem dX7_frameNow_176 : decode cX7_frameNow 176 = .ok (.invokevirtual 122, 3) := by decide +kernel
theorem dX7_frameNow_179 : decode cX7_frameNow 179 = .ok (.pop, 1) := by decide +kernel
theorem dX7_frameNow_180 : decode cX7_frameNow 180 = .ok (.iinc 3 1, 3) := by decide +kernel
theorem dX7_frameNow_183 : decode cX7_frameNow 183 = .ok (.goto (-103), 3) := by decide +kernel
theorem dX7_frameNow_186 : decode cX7_frameNow 186 = .ok (.return_, 1) := by decide +kernel
theorem dX7_isSlots_0 : decode cX7_isSlots 0 = .ok (.iload_n 0, 1) := by decide +kernel
theorem dX7_isSlots_1 : decode cX7_isSlots 1 = .ok (.iconst 1, 1) := by decide +kernel
theorem dX7_isSlots_2 : decode cX7_isSlots 2 = .ok (.bipush 64, 2) := by decide +kernel
theorem dX7_isSlots_4 : decode cX7_isSlots 4 = .ok (.invokestatic 63, 3) := by decide +kernel
theorem dX7_isSlots_7 : decode cX7_isSlots 7 = .ok (.ireturn, 1) := by decide +kernel
theorem dX7_frame_0 : decode cX7_frame 0 = .ok (.iload_n 1, 1) := by decide +kernel
theorem dX7_frame_1 : decode cX7_frame 1 = .ok (.invokestatic 149, 3) := by decide +kernel
theorem dX7_frame_4 : decode cX7_frame 4 = .ok (.ifCond .ne 6, 3) := by decide +kernel
theorem dX7_frame_7 : decode cX7_frame 7 = .ok (.bipush (-2), 2) := by decide +kernel
theorem dX7_frame_9 : decode cX7_frame 9 = .ok (.ireturn, 1) := by decide +kernel
theorem dX7_frame_10 : decode cX7_frame 10 = .ok (.aload_n 0, 1) := by decide +kernel
theorem dX7_frame_11 : decode cX7_frame 11 = .ok (.invokevirtual 60, 3) := by decide +kernel
theorem dX7_frame_14 : decode cX7_frame 14 = .ok (.aload_n 0, 1) := by decide +kernel
theorem dX7_frame_15 : decode cX7_frame 15 = .ok (.getfield 7, 3) := by decide +kernel
theorem dX7_frame_18 : decode cX7_frame 18 = .ok (.bipush 8, 2) := by decide +kernel
theorem dX7_frame_20 : decode cX7_frame 20 = .ok (.iaload, 1) := by decide +kernel
theorem dX7_frame_21 : decode cX7_frame 21 = .ok (.istore_n 2, 1) := by decide +kernel
theorem dX7_frame_22 : decode cX7_frame 22 = .ok (.aload_n 0, 1) := by decide +kernel
theorem dX7_frame_23 : decode cX7_frame 23 = .ok (.iload_n 1, 1) := by decide +kernel
theorem dX7_frame_24 : decode cX7_frame 24 = .ok (.invokevirtual 153, 3) := by decide +kernel
theorem dX7_frame_27 : decode cX7_frame 27 = .ok (.aload_n 0, 1) := by decide +kernel
theorem dX7_frame_28 : decode cX7_frame 28 = .ok (.getfield 7, 3) := by decide +kernel
theorem dX7_frame_31 : decode cX7_frame 31 = .ok (.bipush 8, 2) := by decide +kernel
theorem dX7_frame_33 : decode cX7_frame 33 = .ok (.iaload, 1) := by decide +kernel
theorem dX7_frame_34 : decode cX7_frame 34 = .ok (.iload_n 2, 1) := by decide +kernel
theorem dX7_frame_35 : decode cX7_frame 35 = .ok (.isub, 1) := by decide +kernel
theorem dX7_frame_36 : decode cX7_frame 36 = .ok (.ireturn, 1) := by decide +kernel
theorem dX7_nextSize_0 : decode cX7_nextSize 0 = .ok (.aload_n 0, 1) := by decide +kernel
theorem dX7_nextSize_1 : decode cX7_nextSize 1 = .ok (.getfield 7, 3) := by decide +kernel
theorem dX7_nextSize_4 : decode cX7_nextSize 4 = .ok (.iconst 3, 1) := by decide +kernel
theorem dX7_nextSize_5 : decode cX7_nextSize 5 = .ok (.iaload, 1) := by decide +kernel
theorem dX7_nextSize_6 : decode cX7_nextSize 6 = .ok (.ifCond .ne 7, 3) := by decide +kernel
theorem dX7_nextSize_9 : decode cX7_nextSize 9 = .ok (.iload_n 1, 1) := by decide +kernel
theorem dX7_nextSize_10 : decode cX7_nextSize 10 = .ok (.goto 46, 3) := by decide +kernel
theorem dX7_nextSize_13 : decode cX7_nextSize 13 = .ok (.aload_n 0, 1) := by decide +kernel
theorem dX7_nextSize_14 : decode cX7_nextSize 14 = .ok (.getfield 7, 3) := by decide +kernel
theorem dX7_nextSize_17 : decode cX7_nextSize 17 = .ok (.iconst 3, 1) := by decide +kernel
theorem dX7_nextSize_18 : decode cX7_nextSize 18 = .ok (.iaload, 1) := by decide +kernel
theorem dX7_nextSize_19 : decode cX7_nextSize 19 = .ok (.iconst 1, 1) := by decide +kernel
theorem dX7_nextSize_20 : decode cX7_nextSize 20 = .ok (.if_icmp .ne 9, 3) := by decide +kernel
theorem dX7_nextSize_23 : decode cX7_nextSize 23 = .ok (.iconst 2, 1) := by decide +kernel
theorem dX7_nextSize_24 : decode cX7_nextSize 24 = .ok (.iload_n 3, 1) := by decide +kernel
theorem dX7_nextSize_25 : decode cX7_nextSize 25 = .ok (.imul, 1) := by decide +kernel
theorem dX7_nextSize_26 : decode cX7_nextSize 26 = .ok (.goto 30, 3) := by decide +kernel
theorem dX7_nextSize_29 : decode cX7_nextSize 29 = .ok (.iconst 2, 1) := by decide +kernel
theorem dX7_nextSize_30 : decode cX7_nextSize 30 = .ok (.iload_n 3, 1) := by decide +kernel
theorem dX7_nextSize_31 : decode cX7_nextSize 31 = .ok (.imul, 1) := by decide +kernel
theorem dX7_nextSize_32 : decode cX7_nextSize 32 = .ok (.iload_n 2, 1) := by decide +kernel
theorem dX7_nextSize_33 : decode cX7_nextSize 33 = .ok (.if_icmp .le 9, 3) := by decide +kernel
theorem dX7_nextSize_36 : decode cX7_nextSize 36 = .ok (.iconst 2, 1) := by decide +kernel
theorem dX7_nextSize_37 : decode cX7_nextSize 37 = .ok (.iload_n 2, 1) := by decide +kernel
theorem dX7_nextSize_38 : decode cX7_nextSize 38 = .ok (.imul, 1) := by decide +kernel
theorem dX7_nextSize_39 : decode cX7_nextSize 39 = .ok (.goto 17, 3) := by decide +kernel
theorem dX7_nextSize_42 : decode cX7_nextSize 42 = .ok (.iconst 4, 1) := by decide +kernel
theorem dX7_nextSize_43 : decode cX7_nextSize 43 = .ok (.iload_n 3, 1) := by decide +kernel
theorem dX7_nextSize_44 : decode cX7_nextSize 44 = .ok (.imul, 1) := by decide +kernel
theorem dX7_nextSize_45 : decode cX7_nextSize 45 = .ok (.iload_n 2, 1) := by decide +kernel
theorem dX7_nextSize_46 : decode cX7_nextSize 46 = .ok (.if_icmp .gt 9, 3) := by decide +kernel
theorem dX7_nextSize_49 : decode cX7_nextSize 49 = .ok (.iload_n 2, 1) := by decide +kernel
theorem dX7_nextSize_50 : decode cX7_nextSize 50 = .ok (.iconst 2, 1) := by decide +kernel
theorem dX7_nextSize_51 : decode cX7_nextSize 51 = .ok (.idiv, 1) := by decide +kernel
theorem dX7_nextSize_52 : decode cX7_nextSize 52 = .ok (.goto 4, 3) := by decide +kernel
theorem dX7_nextSize_55 : decode cX7_nextSize 55 = .ok (.iload_n 2, 1) := by decide +kernel
theorem dX7_nextSize_56 : decode cX7_nextSize 56 = .ok (.istore 4, 2) := by decide +kernel
theorem dX7_nextSize_58 : decode cX7_nextSize 58 = .ok (.iload 4, 2) := by decide +kernel
theorem dX7_nextSize_60 : decode cX7_nextSize 60 = .ok (.iconst 1, 1) := by decide +kernel
theorem dX7_nextSize_61 : decode cX7_nextSize 61 = .ok (.if_icmp .ge 7, 3) := by decide +kernel
theorem dX7_nextSize_64 : decode cX7_nextSize 64 = .ok (.iconst 1, 1) := by decide +kernel
theorem dX7_nextSize_65 : decode cX7_nextSize 65 = .ok (.goto 17, 3) := by decide +kernel
theorem dX7_nextSize_68 : decode cX7_nextSize 68 = .ok (.iload 4, 2) := by decide +kernel
theorem dX7_nextSize_70 : decode cX7_nextSize 70 = .ok (.bipush 64, 2) := by decide +kernel
theorem dX7_nextSize_72 : decode cX7_nextSize 72 = .ok (.if_icmp .le 8, 3) := by decide +kernel
theorem dX7_nextSize_75 : decode cX7_nextSize 75 = .ok (.bipush 64, 2) := by decide +kernel
theorem dX7_nextSize_77 : decode cX7_nextSize 77 = .ok (.goto 5, 3) := by decide +kernel
theorem dX7_nextSize_80 : decode cX7_nextSize 80 = .ok (.iload 4, 2) := by decide +kernel
theorem dX7_nextSize_82 : decode cX7_nextSize 82 = .ok (.ireturn, 1) := by decide +kernel
theorem dX7_roundsNow_0 : decode cX7_roundsNow 0 = .ok (.iconst 0, 1) := by decide +kernel
theorem dX7_roundsNow_1 : decode cX7_roundsNow 1 = .ok (.istore_n 2, 1) := by decide +kernel
theorem dX7_roundsNow_2 : decode cX7_roundsNow 2 = .ok (.iload_n 1, 1) := by decide +kernel
theorem dX7_roundsNow_3 : decode cX7_roundsNow 3 = .ok (.istore_n 3, 1) := by decide +kernel
theorem dX7_roundsNow_4 : decode cX7_roundsNow 4 = .ok (.iconst 1, 1) := by decide +kernel
theorem dX7_roundsNow_5 : decode cX7_roundsNow 5 = .ok (.istore 4, 2) := by decide +kernel
theorem dX7_roundsNow_7 : decode cX7_roundsNow 7 = .ok (.iload 4, 2) := by decide +kernel
theorem dX7_roundsNow_9 : decode cX7_roundsNow 9 = .ok (.ifCond .eq 62, 3) := by decide +kernel
theorem dX7_roundsNow_12 : decode cX7_roundsNow 12 = .ok (.aload_n 0, 1) := by decide +kernel
theorem dX7_roundsNow_13 : decode cX7_roundsNow 13 = .ok (.getfield 7, 3) := by decide +kernel
theorem dX7_roundsNow_16 : decode cX7_roundsNow 16 = .ok (.bipush 9, 2) := by decide +kernel
theorem dX7_roundsNow_18 : decode cX7_roundsNow 18 = .ok (.iaload, 1) := by decide +kernel
theorem dX7_roundsNow_19 : decode cX7_roundsNow 19 = .ok (.istore 5, 2) := by decide +kernel
theorem dX7_roundsNow_21 : decode cX7_roundsNow 21 = .ok (.aload_n 0, 1) := by decide +kernel
theorem dX7_roundsNow_22 : decode cX7_roundsNow 22 = .ok (.iload_n 3, 1) := by decide +kernel
theorem dX7_roundsNow_23 : decode cX7_roundsNow 23 = .ok (.invokevirtual 153, 3) := by decide +kernel
theorem dX7_roundsNow_26 : decode cX7_roundsNow 26 = .ok (.iinc 2 1, 3) := by decide +kernel
theorem dX7_roundsNow_29 : decode cX7_roundsNow 29 = .ok (.aload_n 0, 1) := by decide +kernel
theorem dX7_roundsNow_30 : decode cX7_roundsNow 30 = .ok (.getfield 7, 3) := by decide +kernel
theorem dX7_roundsNow_33 : decode cX7_roundsNow 33 = .ok (.bipush 9, 2) := by decide +kernel
theorem dX7_roundsNow_35 : decode cX7_roundsNow 35 = .ok (.iaload, 1) := by decide +kernel
theorem dX7_roundsNow_36 : decode cX7_roundsNow 36 = .ok (.iload 5, 2) := by decide +kernel
theorem dX7_roundsNow_38 : decode cX7_roundsNow 38 = .ok (.isub, 1) := by decide +kernel
theorem dX7_roundsNow_39 : decode cX7_roundsNow 39 = .ok (.istore 6, 2) := by decide +kernel
theorem dX7_roundsNow_41 : decode cX7_roundsNow 41 = .ok (.iload 6, 2) := by decide +kernel
theorem dX7_roundsNow_43 : decode cX7_roundsNow 43 = .ok (.ifCond .le 13, 3) := by decide +kernel
theorem dX7_roundsNow_46 : decode cX7_roundsNow 46 = .ok (.iload_n 2, 1) := by decide +kernel
theorem dX7_roundsNow_47 : decode cX7_roundsNow 47 = .ok (.bipush 40, 2) := by decide +kernel
theorem dX7_roundsNow_49 : decode cX7_roundsNow 49 = .ok (.if_icmp .ge 7, 3) := by decide +kernel
theorem dX7_roundsNow_52 : decode cX7_roundsNow 52 = .ok (.iconst 1, 1) := by decide +kernel
theorem dX7_roundsNow_53 : decode cX7_roundsNow 53 = .ok (.goto 4, 3) := by decide +kernel
theorem dX7_roundsNow_56 : decode cX7_roundsNow 56 = .ok (.iconst 0, 1) := by decide +kernel
theorem dX7_roundsNow_57 : decode cX7_roundsNow 57 = .ok (.istore 4, 2) := by decide +kernel
theorem dX7_roundsNow_59 : decode cX7_roundsNow 59 = .ok (.aload_n 0, 1) := by decide +kernel
theorem dX7_roundsNow_60 : decode cX7_roundsNow 60 = .ok (.iload_n 1, 1) := by decide +kernel
theorem dX7_roundsNow_61 : decode cX7_roundsNow 61 = .ok (.iload_n 3, 1) := by decide +kernel
theorem dX7_roundsNow_62 : decode cX7_roundsNow 62 = .ok (.iload 6, 2) := by decide +kernel
theorem dX7_roundsNow_64 : decode cX7_roundsNow 64 = .ok (.invokevirtual 156, 3) := by decide +kernel
theorem dX7_roundsNow_67 : decode cX7_roundsNow 67 = .ok (.istore_n 3, 1) := by decide +kernel
theorem dX7_roundsNow_68 : decode cX7_roundsNow 68 = .ok (.goto (-61), 3) := by decide +kernel
theorem dX7_roundsNow_71 : decode cX7_roundsNow 71 = .ok (.iload_n 2, 1) := by decide +kernel
theorem dX7_roundsNow_72 : decode cX7_roundsNow 72 = .ok (.ireturn, 1) := by decide +kernel
theorem dX7_rounds_0 : decode cX7_rounds 0 = .ok (.iload_n 1, 1) := by decide +kernel
theorem dX7_rounds_1 : decode cX7_rounds 1 = .ok (.invokestatic 149, 3) := by decide +kernel
theorem dX7_rounds_4 : decode cX7_rounds 4 = .ok (.ifCond .ne 6, 3) := by decide +kernel
theorem dX7_rounds_7 : decode cX7_rounds 7 = .ok (.bipush (-2), 2) := by decide +kernel
theorem dX7_rounds_9 : decode cX7_rounds 9 = .ok (.ireturn, 1) := by decide +kernel
theorem dX7_rounds_10 : decode cX7_rounds 10 = .ok (.aload_n 0, 1) := by decide +kernel
theorem dX7_rounds_11 : decode cX7_rounds 11 = .ok (.invokevirtual 60, 3) := by decide +kernel
theorem dX7_rounds_14 : decode cX7_rounds 14 = .ok (.aload_n 0, 1) := by decide +kernel
theorem dX7_rounds_15 : decode cX7_rounds 15 = .ok (.iload_n 1, 1) := by decide +kernel
theorem dX7_rounds_16 : decode cX7_rounds 16 = .ok (.invokevirtual 160, 3) := by decide +kernel
theorem dX7_rounds_19 : decode cX7_rounds 19 = .ok (.ireturn, 1) := by decide +kernel
theorem dX7_type_0 : decode cX7_type 0 = .ok (.aload_n 0, 1) := by decide +kernel
theorem dX7_type_1 : decode cX7_type 1 = .ok (.getfield 163, 3) := by decide +kernel
theorem dX7_type_4 : decode cX7_type 4 = .ok (.bipush 60, 2) := by decide +kernel
theorem dX7_type_6 : decode cX7_type 6 = .ok (.if_icmp .ne 6, 3) := by decide +kernel
theorem dX7_type_9 : decode cX7_type 9 = .ok (.bipush (-3), 2) := by decide +kernel
theorem dX7_type_11 : decode cX7_type 11 = .ok (.ireturn, 1) := by decide +kernel
theorem dX7_type_12 : decode cX7_type 12 = .ok (.aload_n 0, 1) := by decide +kernel
theorem dX7_type_13 : decode cX7_type 13 = .ok (.getfield 22, 3) := by decide +kernel
theorem dX7_type_16 : decode cX7_type 16 = .ok (.aload_n 0, 1) := by decide +kernel
theorem dX7_type_17 : decode cX7_type 17 = .ok (.getfield 163, 3) := by decide +kernel
theorem dX7_type_20 : decode cX7_type 20 = .ok (.iload_n 1, 1) := by decide +kernel
theorem dX7_type_21 : decode cX7_type 21 = .ok (.iastore, 1) := by decide +kernel
theorem dX7_type_22 : decode cX7_type 22 = .ok (.aload_n 0, 1) := by decide +kernel
theorem dX7_type_23 : decode cX7_type 23 = .ok (.dup, 1) := by decide +kernel
theorem dX7_type_24 : decode cX7_type 24 = .ok (.getfield 163, 3) := by decide +kernel
theorem dX7_type_27 : decode cX7_type 27 = .ok (.iconst 1, 1) := by decide +kernel
theorem dX7_type_28 : decode cX7_type 28 = .ok (.iadd, 1) := by decide +kernel
theorem dX7_type_29 : decode cX7_type 29 = .ok (.putfield 163, 3) := by decide +kernel
theorem dX7_type_32 : decode cX7_type 32 = .ok (.aload_n 0, 1) := by decide +kernel
theorem dX7_type_33 : decode cX7_type 33 = .ok (.getfield 163, 3) := by decide +kernel
theorem dX7_type_36 : decode cX7_type 36 = .ok (.ireturn, 1) := by decide +kernel
theorem dX7_clearText_0 : decode cX7_clearText 0 = .ok (.aload_n 0, 1) := by decide +kernel
theorem dX7_clearText_1 : decode cX7_clearText 1 = .ok (.getfield 163, 3) := by decide +kernel
theorem dX7_clearText_4 : decode cX7_clearText 4 = .ok (.istore_n 1, 1) := by decide +kernel
theorem dX7_clearText_5 : decode cX7_clearText 5 = .ok (.aload_n 0, 1) := by decide +kernel
theorem dX7_clearText_6 : decode cX7_clearText 6 = .ok (.iconst 0, 1) := by decide +kernel
theorem dX7_clearText_7 : decode cX7_clearText 7 = .ok (.putfield 163, 3) := by decide +kernel
theorem dX7_clearText_10 : decode cX7_clearText 10 = .ok (.iload_n 1, 1) := by decide +kernel
theorem dX7_clearText_11 : decode cX7_clearText 11 = .ok (.ireturn, 1) := by decide +kernel
theorem dX7_sees_0 : decode cX7_sees 0 = .ok (.aload_n 0, 1) := by decide +kernel
theorem dX7_sees_1 : decode cX7_sees 1 = .ok (.getfield 166, 3) := by decide +kernel
theorem dX7_sees_4 : decode cX7_sees 4 = .ok (.aload_n 0, 1) := by decide +kernel
theorem dX7_sees_5 : decode cX7_sees 5 = .ok (.getfield 163, 3) := by decide +kernel
theorem dX7_sees_8 : decode cX7_sees 8 = .ok (.if_icmp .ge 24, 3) := by decide +kernel
theorem dX7_sees_11 : decode cX7_sees 11 = .ok (.aload_n 0, 1) := by decide +kernel
theorem dX7_sees_12 : decode cX7_sees 12 = .ok (.getfield 22, 3) := by decide +kernel
theorem dX7_sees_15 : decode cX7_sees 15 = .ok (.aload_n 0, 1) := by decide +kernel
theorem dX7_sees_16 : decode cX7_sees 16 = .ok (.getfield 166, 3) := by decide +kernel
theorem dX7_sees_19 : decode cX7_sees 19 = .ok (.iaload, 1) := by decide +kernel
theorem dX7_sees_20 : decode cX7_sees 20 = .ok (.iload_n 1, 1) := by decide +kernel
theorem dX7_sees_21 : decode cX7_sees 21 = .ok (.iload_n 2, 1) := by decide +kernel
theorem dX7_sees_22 : decode cX7_sees 22 = .ok (.invokestatic 63, 3) := by decide +kernel
theorem dX7_sees_25 : decode cX7_sees 25 = .ok (.ifCond .eq 7, 3) := by decide +kernel
theorem dX7_sees_28 : decode cX7_sees 28 = .ok (.iconst 1, 1) := by decide +kernel
theorem dX7_sees_29 : decode cX7_sees 29 = .ok (.goto 4, 3) := by decide +kernel
theorem dX7_sees_32 : decode cX7_sees 32 = .ok (.iconst 0, 1) := by decide +kernel
theorem dX7_sees_33 : decode cX7_sees 33 = .ok (.ireturn, 1) := by decide +kernel
theorem dX7_takes_0 : decode cX7_takes 0 = .ok (.aload_n 0, 1) := by decide +kernel
theorem dX7_takes_1 : decode cX7_takes 1 = .ok (.iload_n 1, 1) := by decide +kernel
theorem dX7_takes_2 : decode cX7_takes 2 = .ok (.iload_n 1, 1) := by decide +kernel
theorem dX7_takes_3 : decode cX7_takes 3 = .ok (.invokevirtual 169, 3) := by decide +kernel
theorem dX7_takes_6 : decode cX7_takes 6 = .ok (.istore_n 2, 1) := by decide +kernel
theorem dX7_takes_7 : decode cX7_takes 7 = .ok (.aload_n 0, 1) := by decide +kernel
theorem dX7_takes_8 : decode cX7_takes 8 = .ok (.dup, 1) := by decide +kernel
theorem dX7_takes_9 : decode cX7_takes 9 = .ok (.getfield 166, 3) := by decide +kernel
theorem dX7_takes_12 : decode cX7_takes 12 = .ok (.iload_n 2, 1) := by decide +kernel
theorem dX7_takes_13 : decode cX7_takes 13 = .ok (.ifCond .eq 7, 3) := by decide +kernel
theorem dX7_takes_16 : decode cX7_takes 16 = .ok (.iconst 1, 1) := by decide +kernel
theorem dX7_takes_17 : decode cX7_takes 17 = .ok (.goto 4, 3) := by decide +kernel
theorem dX7_takes_20 : decode cX7_takes 20 = .ok (.iconst 0, 1) := by decide +kernel
theorem dX7_takes_21 : decode cX7_takes 21 = .ok (.iadd, 1) := by decide +kernel
theorem dX7_takes_22 : decode cX7_takes 22 = .ok (.putfield 166, 3) := by decide +kernel
theorem dX7_takes_25 : decode cX7_takes 25 = .ok (.iload_n 2, 1) := by decide +kernel
theorem dX7_takes_26 : decode cX7_takes 26 = .ok (.ireturn, 1) := by decide +kernel
theorem dX7_number_0 : decode cX7_number 0 = .ok (.aload_n 0, 1) := by decide +kernel
theorem dX7_number_1 : decode cX7_number 1 = .ok (.bipush 48, 2) := by decide +kernel
theorem dX7_number_3 : decode cX7_number 3 = .ok (.iload_n 1, 1) := by decide +kernel
theorem dX7_number_4 : decode cX7_number 4 = .ok (.iadd, 1) := by decide +kernel
theorem dX7_number_5 : decode cX7_number 5 = .ok (.bipush 57, 2) := by decide +kernel
theorem dX7_number_7 : decode cX7_number 7 = .ok (.invokevirtual 169, 3) := by decide +kernel
theorem dX7_number_10 : decode cX7_number 10 = .ok (.ifCond .ne 6, 3) := by decide +kernel
theorem dX7_number_13 : decode cX7_number 13 = .ok (.bipush (-5), 2) := by decide +kernel
theorem dX7_number_15 : decode cX7_number 15 = .ok (.ireturn, 1) := by decide +kernel
theorem dX7_number_16 : decode cX7_number 16 = .ok (.aload_n 0, 1) := by decide +kernel
theorem dX7_number_17 : decode cX7_number 17 = .ok (.getfield 22, 3) := by decide +kernel
theorem dX7_number_20 : decode cX7_number 20 = .ok (.aload_n 0, 1) := by decide +kernel
theorem dX7_number_21 : decode cX7_number 21 = .ok (.getfield 166, 3) := by decide +kernel
theorem dX7_number_24 : decode cX7_number 24 = .ok (.iaload, 1) := by decide +kernel
theorem dX7_number_25 : decode cX7_number 25 = .ok (.bipush 48, 2) := by decide +kernel
theorem dX7_number_27 : decode cX7_number 27 = .ok (.isub, 1) := by decide +kernel
theorem dX7_number_28 : decode cX7_number 28 = .ok (.istore_n 3, 1) := by decide +kernel
theorem dX7_number_29 : decode cX7_number 29 = .ok (.aload_n 0, 1) := by decide +kernel
theorem dX7_number_30 : decode cX7_number 30 = .ok (.dup, 1) := by decide +kernel
theorem dX7_number_31 : decode cX7_number 31 = .ok (.getfield 166, 3) := by decide +kernel
theorem dX7_number_34 : decode cX7_number 34 = .ok (.iconst 1, 1) := by decide +kernel
theorem dX7_number_35 : decode cX7_number 35 = .ok (.iadd, 1) := by decide +kernel
theorem dX7_number_36 : decode cX7_number 36 = .ok (.putfield 166, 3) := by decide +kernel
theorem dX7_number_39 : decode cX7_number 39 = .ok (.iload_n 3, 1) := by decide +kernel
theorem dX7_number_40 : decode cX7_number 40 = .ok (.ifCond .le 66, 3) := by decide +kernel
theorem dX7_number_43 : decode cX7_number 43 = .ok (.aload_n 0, 1) := by decide +kernel
theorem dX7_number_44 : decode cX7_number 44 = .ok (.bipush 48, 2) := by decide +kernel
theorem dX7_number_46 : decode cX7_number 46 = .ok (.bipush 57, 2) := by decide +kernel
theorem dX7_number_48 : decode cX7_number 48 = .ok (.invokevirtual 169, 3) := by decide +kernel
theorem dX7_number_51 : decode cX7_number 51 = .ok (.ifCond .eq 55, 3) := by decide +kernel
theorem dX7_number_54 : decode cX7_number 54 = .ok (.bipush 10, 2) := by decide +kernel
theorem dX7_number_56 : decode cX7_number 56 = .ok (.iload_n 3, 1) := by decide +kernel
theorem dX7_number_57 : decode cX7_number 57 = .ok (.imul, 1) := by decide +kernel
theorem dX7_number_58 : decode cX7_number 58 = .ok (.aload_n 0, 1) := by decide +kernel
theorem dX7_number_59 : decode cX7_number 59 = .ok (.getfield 22, 3) := by decide +kernel
theorem dX7_number_62 : decode cX7_number 62 = .ok (.aload_n 0, 1) := by decide +kernel
theorem dX7_number_63 : decode cX7_number 63 = .ok (.getfield 166, 3) := by decide +kernel
theorem dX7_number_66 : decode cX7_number 66 = .ok (.iaload, 1) := by decide +kernel
theorem dX7_number_67 : decode cX7_number 67 = .ok (.iadd, 1) := by decide +kernel
theorem dX7_number_68 : decode cX7_number 68 = .ok (.bipush 48, 2) := by decide +kernel
theorem dX7_number_70 : decode cX7_number 70 = .ok (.isub, 1) := by decide +kernel
theorem dX7_number_71 : decode cX7_number 71 = .ok (.iload_n 2, 1) := by decide +kernel
theorem dX7_number_72 : decode cX7_number 72 = .ok (.if_icmp .gt 34, 3) := by decide +kernel
theorem dX7_number_75 : decode cX7_number 75 = .ok (.bipush 10, 2) := by decide +kernel
theorem dX7_number_77 : decode cX7_number 77 = .ok (.iload_n 3, 1) := by decide +kernel
theorem dX7_number_78 : decode cX7_number 78 = .ok (.imul, 1) := by decide +kernel
theorem dX7_number_79 : decode cX7_number 79 = .ok (.aload_n 0, 1) := by decide +kernel
theorem dX7_number_80 : decode cX7_number 80 = .ok (.getfield 22, 3) := by decide +kernel
theorem dX7_number_83 : decode cX7_number 83 = .ok (.aload_n 0, 1) := by decide +kernel
theorem dX7_number_84 : decode cX7_number 84 = .ok (.getfield 166, 3) := by decide +kernel
theorem dX7_number_87 : decode cX7_number 87 = .ok (.iaload, 1) := by decide +kernel
theorem dX7_number_88 : decode cX7_number 88 = .ok (.iadd, 1) := by decide +kernel
theorem dX7_number_89 : decode cX7_number 89 = .ok (.bipush 48, 2) := by decide +kernel
theorem dX7_number_91 : decode cX7_number 91 = .ok (.isub, 1) := by decide +kernel
theorem dX7_number_92 : decode cX7_number 92 = .ok (.istore_n 3, 1) := by decide +kernel
theorem dX7_number_93 : decode cX7_number 93 = .ok (.aload_n 0, 1) := by decide +kernel
theorem dX7_number_94 : decode cX7_number 94 = .ok (.dup, 1) := by decide +kernel
theorem dX7_number_95 : decode cX7_number 95 = .ok (.getfield 166, 3) := by decide +kernel
theorem dX7_number_98 : decode cX7_number 98 = .ok (.iconst 1, 1) := by decide +kernel
theorem dX7_number_99 : decode cX7_number 99 = .ok (.iadd, 1) := by decide +kernel
theorem dX7_number_100 : decode cX7_number 100 = .ok (.putfield 166, 3) := by decide +kernel
theorem dX7_number_103 : decode cX7_number 103 = .ok (.goto (-64), 3) := by decide +kernel
theorem dX7_number_106 : decode cX7_number 106 = .ok (.iload_n 3, 1) := by decide +kernel
theorem dX7_number_107 : decode cX7_number 107 = .ok (.ireturn, 1) := by decide +kernel
theorem dX7_readOrder_0 : decode cX7_readOrder 0 = .ok (.aload_n 0, 1) := by decide +kernel
theorem dX7_readOrder_1 : decode cX7_readOrder 1 = .ok (.getfield 166, 3) := by decide +kernel
theorem dX7_readOrder_4 : decode cX7_readOrder 4 = .ok (.aload_n 0, 1) := by decide +kernel
theorem dX7_readOrder_5 : decode cX7_readOrder 5 = .ok (.getfield 163, 3) := by decide +kernel
theorem dX7_readOrder_8 : decode cX7_readOrder 8 = .ok (.if_icmp .ge 15, 3) := by decide +kernel
theorem dX7_readOrder_11 : decode cX7_readOrder 11 = .ok (.aload_n 0, 1) := by decide +kernel
theorem dX7_readOrder_12 : decode cX7_readOrder 12 = .ok (.getfield 22, 3) := by decide +kernel
theorem dX7_readOrder_15 : decode cX7_readOrder 15 = .ok (.aload_n 0, 1) := by decide +kernel
theorem dX7_readOrder_16 : decode cX7_readOrder 16 = .ok (.getfield 166, 3) := by decide +kernel
theorem dX7_readOrder_19 : decode cX7_readOrder 19 = .ok (.iaload, 1) := by decide +kernel
theorem dX7_readOrder_20 : decode cX7_readOrder 20 = .ok (.goto 4, 3) := by decide +kernel
theorem dX7_readOrder_23 : decode cX7_readOrder 23 = .ok (.iconst 0, 1) := by decide +kernel
theorem dX7_readOrder_24 : decode cX7_readOrder 24 = .ok (.istore_n 1, 1) := by decide +kernel
theorem dX7_readOrder_25 : decode cX7_readOrder 25 = .ok (.iload_n 1, 1) := by decide +kernel
theorem dX7_readOrder_26 : decode cX7_readOrder 26 = .ok (.bipush 43, 2) := by decide +kernel
theorem dX7_readOrder_28 : decode cX7_readOrder 28 = .ok (.if_icmp .eq 15, 3) := by decide +kernel
theorem dX7_readOrder_31 : decode cX7_readOrder 31 = .ok (.iload_n 1, 1) := by decide +kernel
theorem dX7_readOrder_32 : decode cX7_readOrder 32 = .ok (.bipush 45, 2) := by decide +kernel
theorem dX7_readOrder_34 : decode cX7_readOrder 34 = .ok (.if_icmp .eq 9, 3) := by decide +kernel
theorem dX7_readOrder_37 : decode cX7_readOrder 37 = .ok (.iload_n 1, 1) := by decide +kernel
theorem dX7_readOrder_38 : decode cX7_readOrder 38 = .ok (.bipush 122, 2) := by decide +kernel
theorem dX7_readOrder_40 : decode cX7_readOrder 40 = .ok (.if_icmp .ne 7, 3) := by decide +kernel
theorem dX7_readOrder_43 : decode cX7_readOrder 43 = .ok (.iconst 1, 1) := by decide +kernel
theorem dX7_readOrder_44 : decode cX7_readOrder 44 = .ok (.goto 4, 3) := by decide +kernel
theorem dX7_readOrder_47 : decode cX7_readOrder 47 = .ok (.iconst 0, 1) := by decide +kernel
theorem dX7_readOrder_48 : decode cX7_readOrder 48 = .ok (.istore_n 2, 1) := by decide +kernel
theorem dX7_readOrder_49 : decode cX7_readOrder 49 = .ok (.iload_n 2, 1) := by decide +kernel
theorem dX7_readOrder_50 : decode cX7_readOrder 50 = .ok (.ifCond .ne 29, 3) := by decide +kernel
theorem dX7_readOrder_53 : decode cX7_readOrder 53 = .ok (.iload_n 1, 1) := by decide +kernel
theorem dX7_readOrder_54 : decode cX7_readOrder 54 = .ok (.bipush 119, 2) := by decide +kernel
theorem dX7_readOrder_56 : decode cX7_readOrder 56 = .ok (.if_icmp .eq 23, 3) := by decide +kernel
theorem dX7_readOrder_59 : decode cX7_readOrder 59 = .ok (.iload_n 1, 1) := by decide +kernel
theorem dX7_readOrder_60 : decode cX7_readOrder 60 = .ok (.bipush 118, 2) := by decide +kernel
theorem dX7_readOrder_62 : decode cX7_readOrder 62 = .ok (.if_icmp .eq 17, 3) := by decide +kernel
theorem dX7_readOrder_65 : decode cX7_readOrder 65 = .ok (.iload_n 1, 1) := by decide +kernel
theorem dX7_readOrder_66 : decode cX7_readOrder 66 = .ok (.bipush 97, 2) := by decide +kernel
theorem dX7_readOrder_68 : decode cX7_readOrder 68 = .ok (.if_icmp .eq 11, 3) := by decide +kernel
theorem dX7_readOrder_71 : decode cX7_readOrder 71 = .ok (.iload_n 1, 1) := by decide +kernel
theorem dX7_readOrder_72 : decode cX7_readOrder 72 = .ok (.bipush 102, 2) := by decide +kernel
theorem dX7_readOrder_74 : decode cX7_readOrder 74 = .ok (.if_icmp .eq 5, 3) := by decide +kernel
theorem dX7_readOrder_77 : decode cX7_readOrder 77 = .ok (.iconst 0, 1) := by decide +kernel
theorem dX7_readOrder_78 : decode cX7_readOrder 78 = .ok (.ireturn, 1) := by decide +kernel
theorem dX7_readOrder_79 : decode cX7_readOrder 79 = .ok (.aload_n 0, 1) := by decide +kernel
theorem dX7_readOrder_80 : decode cX7_readOrder 80 = .ok (.dup, 1) := by decide +kernel
theorem dX7_readOrder_81 : decode cX7_readOrder 81 = .ok (.getfield 166, 3) := by decide +kernel
theorem dX7_readOrder_84 : decode cX7_readOrder 84 = .ok (.iconst 1, 1) := by decide +kernel
theorem dX7_readOrder_85 : decode cX7_readOrder 85 = .ok (.iadd, 1) := by decide +kernel
theorem dX7_readOrder_86 : decode cX7_readOrder 86 = .ok (.putfield 166, 3) := by decide +kernel
theorem dX7_readOrder_89 : decode cX7_readOrder 89 = .ok (.iload_n 2, 1) := by decide +kernel
theorem dX7_readOrder_90 : decode cX7_readOrder 90 = .ok (.ifCond .eq 14, 3) := by decide +kernel
theorem dX7_readOrder_93 : decode cX7_readOrder 93 = .ok (.aload_n 0, 1) := by decide +kernel
theorem dX7_readOrder_94 : decode cX7_readOrder 94 = .ok (.iconst 0, 1) := by decide +kernel
theorem dX7_readOrder_95 : decode cX7_readOrder 95 = .ok (.sipush 255, 3) := by decide +kernel
theorem dX7_readOrder_98 : decode cX7_readOrder 98 = .ok (.invokevirtual 172, 3) := by decide +kernel
theorem dX7_readOrder_101 : decode cX7_readOrder 101 = .ok (.goto 20, 3) := by decide +kernel
theorem dX7_readOrder_104 : decode cX7_readOrder 104 = .ok (.iload_n 1, 1) := by decide +kernel
theorem dX7_readOrder_105 : decode cX7_readOrder 105 = .ok (.bipush 102, 2) := by decide +kernel
theorem dX7_readOrder_107 : decode cX7_readOrder 107 = .ok (.if_icmp .ne 13, 3) := by decide +kernel
theorem dX7_readOrder_110 : decode cX7_readOrder 110 = .ok (.aload_n 0, 1) := by decide +kernel
theorem dX7_readOrder_111 : decode cX7_readOrder 111 = .ok (.iconst 1, 1) := by decide +kernel
theorem dX7_readOrder_112 : decode cX7_readOrder 112 = .ok (.bipush 64, 2) := by decide +kernel
theorem dX7_readOrder_114 : decode cX7_readOrder 114 = .ok (.invokevirtual 172, 3) := by decide +kernel
theorem dX7_readOrder_117 : decode cX7_readOrder 117 = .ok (.goto 4, 3) := by decide +kernel
theorem dX7_readOrder_120 : decode cX7_readOrder 120 = .ok (.iconst 0, 1) := by decide +kernel
theorem dX7_readOrder_121 : decode cX7_readOrder 121 = .ok (.istore_n 3, 1) := by decide +kernel
theorem dX7_readOrder_122 : decode cX7_readOrder 122 = .ok (.iload_n 3, 1) := by decide +kernel
theorem dX7_readOrder_123 : decode cX7_readOrder 123 = .ok (.bipush (-5), 2) := by decide +kernel
theorem dX7_readOrder_125 : decode cX7_readOrder 125 = .ok (.if_icmp .ne 5, 3) := by decide +kernel
theorem dX7_readOrder_128 : decode cX7_readOrder 128 = .ok (.iconst 0, 1) := by decide +kernel
theorem dX7_readOrder_129 : decode cX7_readOrder 129 = .ok (.ireturn, 1) := by decide +kernel
theorem dX7_readOrder_130 : decode cX7_readOrder 130 = .ok (.aload_n 0, 1) := by decide +kernel
theorem dX7_readOrder_131 : decode cX7_readOrder 131 = .ok (.getfield 34, 3) := by decide +kernel
theorem dX7_readOrder_134 : decode cX7_readOrder 134 = .ok (.aload_n 0, 1) := by decide +kernel
theorem dX7_readOrder_135 : decode cX7_readOrder 135 = .ok (.getfield 175, 3) := by decide +kernel
theorem dX7_readOrder_138 : decode cX7_readOrder 138 = .ok (.iload_n 1, 1) := by decide +kernel
theorem dX7_readOrder_139 : decode cX7_readOrder 139 = .ok (.iastore, 1) := by decide +kernel
theorem dX7_readOrder_140 : decode cX7_readOrder 140 = .ok (.aload_n 0, 1) := by decide +kernel
theorem dX7_readOrder_141 : decode cX7_readOrder 141 = .ok (.getfield 37, 3) := by decide +kernel
theorem dX7_readOrder_144 : decode cX7_readOrder 144 = .ok (.aload_n 0, 1) := by decide +kernel
theorem dX7_readOrder_145 : decode cX7_readOrder 145 = .ok (.getfield 175, 3) := by decide +kernel
theorem dX7_readOrder_148 : decode cX7_readOrder 148 = .ok (.iload_n 3, 1) := by decide +kernel
theorem dX7_readOrder_149 : decode cX7_readOrder 149 = .ok (.iastore, 1) := by decide +kernel
theorem dX7_readOrder_150 : decode cX7_readOrder 150 = .ok (.aload_n 0, 1) := by decide +kernel
theorem dX7_readOrder_151 : decode cX7_readOrder 151 = .ok (.dup, 1) := by decide +kernel
theorem dX7_readOrder_152 : decode cX7_readOrder 152 = .ok (.getfield 175, 3) := by decide +kernel
theorem dX7_readOrder_155 : decode cX7_readOrder 155 = .ok (.iconst 1, 1) := by decide +kernel
theorem dX7_readOrder_156 : decode cX7_readOrder 156 = .ok (.iadd, 1) := by decide +kernel
theorem dX7_readOrder_157 : decode cX7_readOrder 157 = .ok (.putfield 175, 3) := by decide +kernel
theorem dX7_readOrder_160 : decode cX7_readOrder 160 = .ok (.iconst 1, 1) := by decide +kernel
theorem dX7_readOrder_161 : decode cX7_readOrder 161 = .ok (.ireturn, 1) := by decide +kernel
theorem dX7_readText_0 : decode cX7_readText 0 = .ok (.aload_n 0, 1) := by decide +kernel
theorem dX7_readText_1 : decode cX7_readText 1 = .ok (.iconst 0, 1) := by decide +kernel
