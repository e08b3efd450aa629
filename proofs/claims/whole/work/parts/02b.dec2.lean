theorem dX8_raises_1 : decode cX8_raises 1 = .ok (.getfield 10, 3) := by decide +kernel
theorem dX8_raises_4 : decode cX8_raises 4 = .ok (.iload_n 1, 1) := by decide +kernel
theorem dX8_raises_5 : decode cX8_raises 5 = .ok (.invokevirtual 74, 3) := by decide +kernel
theorem dX8_raises_8 : decode cX8_raises 8 = .ok (.astore_n 2, 1) := by decide +kernel
theorem dX8_raises_9 : decode cX8_raises 9 = .ok (.aload_n 2, 1) := by decide +kernel
theorem dX8_raises_10 : decode cX8_raises 10 = .ok (.ifnonnull 7, 3) := by decide +kernel
theorem dX8_raises_13 : decode cX8_raises 13 = .ok (.iconst (-1), 1) := by decide +kernel
theorem dX8_raises_14 : decode cX8_raises 14 = .ok (.goto 10, 3) := by decide +kernel
theorem dX8_raises_17 : decode cX8_raises 17 = .ok (.aload_n 2, 1) := by decide +kernel
theorem dX8_raises_18 : decode cX8_raises 18 = .ok (.getfield 88, 3) := by decide +kernel
theorem dX8_raises_21 : decode cX8_raises 21 = .ok (.invokevirtual 169, 3) := by decide +kernel
theorem dX8_raises_24 : decode cX8_raises 24 = .ok (.ireturn, 1) := by decide +kernel
set_option maxRecDepth 20000 in
theorem dX8_both_0 : decode cX8_both 0 = .ok (.aload_n 0, 1) := by decide +kernel
theorem dX8_both_1 : decode cX8_both 1 = .ok (.getfield 10, 3) := by decide +kernel
theorem dX8_both_4 : decode cX8_both 4 = .ok (.iload_n 1, 1) := by decide +kernel
theorem dX8_both_5 : decode cX8_both 5 = .ok (.invokevirtual 74, 3) := by decide +kernel
theorem dX8_both_8 : decode cX8_both 8 = .ok (.astore 4, 2) := by decide +kernel
theorem dX8_both_10 : decode cX8_both 10 = .ok (.aload_n 0, 1) := by decide +kernel
theorem dX8_both_11 : decode cX8_both 11 = .ok (.getfield 10, 3) := by decide +kernel
theorem dX8_both_14 : decode cX8_both 14 = .ok (.iload_n 2, 1) := by decide +kernel
theorem dX8_both_15 : decode cX8_both 15 = .ok (.invokevirtual 74, 3) := by decide +kernel
theorem dX8_both_18 : decode cX8_both 18 = .ok (.astore 5, 2) := by decide +kernel
theorem dX8_both_20 : decode cX8_both 20 = .ok (.aload 4, 2) := by decide +kernel
theorem dX8_both_22 : decode cX8_both 22 = .ok (.ifnull 16, 3) := by decide +kernel
theorem dX8_both_25 : decode cX8_both 25 = .ok (.aload 5, 2) := by decide +kernel
theorem dX8_both_27 : decode cX8_both 27 = .ok (.ifnull 11, 3) := by decide +kernel
theorem dX8_both_30 : decode cX8_both 30 = .ok (.iload_n 3, 1) := by decide +kernel
theorem dX8_both_31 : decode cX8_both 31 = .ok (.iconst 3, 1) := by decide +kernel
theorem dX8_both_32 : decode cX8_both 32 = .ok (.invokestatic 78, 3) := by decide +kernel
theorem dX8_both_35 : decode cX8_both 35 = .ok (.ifCond .ne 5, 3) := by decide +kernel
theorem dX8_both_38 : decode cX8_both 38 = .ok (.iconst (-1), 1) := by decide +kernel
theorem dX8_both_39 : decode cX8_both 39 = .ok (.ireturn, 1) := by decide +kernel
theorem dX8_both_40 : decode cX8_both 40 = .ok (.iload_n 3, 1) := by decide +kernel
theorem dX8_both_41 : decode cX8_both 41 = .ok (.iconst 1, 1) := by decide +kernel
theorem dX8_both_42 : decode cX8_both 42 = .ok (.if_icmp .ne 11, 3) := by decide +kernel
theorem dX8_both_45 : decode cX8_both 45 = .ok (.aload 4, 2) := by decide +kernel
theorem dX8_both_47 : decode cX8_both 47 = .ok (.aload 5, 2) := by decide +kernel
theorem dX8_both_49 : decode cX8_both 49 = .ok (.invokevirtual 172, 3) := by decide +kernel
theorem dX8_both_52 : decode cX8_both 52 = .ok (.ireturn, 1) := by decide +kernel
theorem dX8_both_53 : decode cX8_both 53 = .ok (.iload_n 3, 1) := by decide +kernel
theorem dX8_both_54 : decode cX8_both 54 = .ok (.iconst 3, 1) := by decide +kernel
theorem dX8_both_55 : decode cX8_both 55 = .ok (.if_icmp .ne 11, 3) := by decide +kernel
theorem dX8_both_58 : decode cX8_both 58 = .ok (.aload 4, 2) := by decide +kernel
theorem dX8_both_60 : decode cX8_both 60 = .ok (.aload 5, 2) := by decide +kernel
theorem dX8_both_62 : decode cX8_both 62 = .ok (.invokevirtual 176, 3) := by decide +kernel
theorem dX8_both_65 : decode cX8_both 65 = .ok (.ireturn, 1) := by decide +kernel
theorem dX8_both_66 : decode cX8_both 66 = .ok (.aload 4, 2) := by decide +kernel
theorem dX8_both_68 : decode cX8_both 68 = .ok (.getfield 88, 3) := by decide +kernel
theorem dX8_both_71 : decode cX8_both 71 = .ok (.aload 5, 2) := by decide +kernel
theorem dX8_both_73 : decode cX8_both 73 = .ok (.getfield 88, 3) := by decide +kernel
theorem dX8_both_76 : decode cX8_both 76 = .ok (.invokevirtual 179, 3) := by decide +kernel
theorem dX8_both_79 : decode cX8_both 79 = .ok (.ifCond .ne 6, 3) := by decide +kernel
theorem dX8_both_82 : decode cX8_both 82 = .ok (.bipush (-2), 2) := by decide +kernel
theorem dX8_both_84 : decode cX8_both 84 = .ok (.ireturn, 1) := by decide +kernel
theorem dX8_both_85 : decode cX8_both 85 = .ok (.aload_n 0, 1) := by decide +kernel
theorem dX8_both_86 : decode cX8_both 86 = .ok (.getfield 47, 3) := by decide +kernel
theorem dX8_both_89 : decode cX8_both 89 = .ok (.aload 4, 2) := by decide +kernel
theorem dX8_both_91 : decode cX8_both 91 = .ok (.getfield 88, 3) := by decide +kernel
theorem dX8_both_94 : decode cX8_both 94 = .ok (.invokevirtual 158, 3) := by decide +kernel
theorem dX8_both_97 : decode cX8_both 97 = .ok (.aload_n 0, 1) := by decide +kernel
theorem dX8_both_98 : decode cX8_both 98 = .ok (.getfield 47, 3) := by decide +kernel
theorem dX8_both_101 : decode cX8_both 101 = .ok (.aload 5, 2) := by decide +kernel
theorem dX8_both_103 : decode cX8_both 103 = .ok (.getfield 88, 3) := by decide +kernel
theorem dX8_both_106 : decode cX8_both 106 = .ok (.invokevirtual 183, 3) := by decide +kernel
theorem dX8_both_109 : decode cX8_both 109 = .ok (.aload_n 0, 1) := by decide +kernel
theorem dX8_both_110 : decode cX8_both 110 = .ok (.getfield 47, 3) := by decide +kernel
theorem dX8_both_113 : decode cX8_both 113 = .ok (.invokevirtual 166, 3) := by decide +kernel
theorem dX8_both_116 : decode cX8_both 116 = .ok (.istore 6, 2) := by decide +kernel
theorem dX8_both_118 : decode cX8_both 118 = .ok (.iload_n 3, 1) := by decide +kernel
theorem dX8_both_119 : decode cX8_both 119 = .ok (.ifCond .ne 6, 3) := by decide +kernel
theorem dX8_both_122 : decode cX8_both 122 = .ok (.iload 6, 2) := by decide +kernel
theorem dX8_both_124 : decode cX8_both 124 = .ok (.ireturn, 1) := by decide +kernel
theorem dX8_both_125 : decode cX8_both 125 = .ok (.iconst 0, 1) := by decide +kernel
theorem dX8_both_126 : decode cX8_both 126 = .ok (.aload 4, 2) := by decide +kernel
theorem dX8_both_128 : decode cX8_both 128 = .ok (.getfield 88, 3) := by decide +kernel
theorem dX8_both_131 : decode cX8_both 131 = .ok (.invokevirtual 166, 3) := by decide +kernel
theorem dX8_both_134 : decode cX8_both 134 = .ok (.aload 5, 2) := by decide +kernel
theorem dX8_both_136 : decode cX8_both 136 = .ok (.getfield 88, 3) := by decide +kernel
theorem dX8_both_139 : decode cX8_both 139 = .ok (.invokevirtual 166, 3) := by decide +kernel
theorem dX8_both_142 : decode cX8_both 142 = .ok (.iadd, 1) := by decide +kernel
theorem dX8_both_143 : decode cX8_both 143 = .ok (.iload 6, 2) := by decide +kernel
theorem dX8_both_145 : decode cX8_both 145 = .ok (.isub, 1) := by decide +kernel
theorem dX8_both_146 : decode cX8_both 146 = .ok (.invokestatic 186, 3) := by decide +kernel
theorem dX8_both_149 : decode cX8_both 149 = .ok (.ireturn, 1) := by decide +kernel
set_option maxRecDepth 20000 in
theorem dX8_undo_0 : decode cX8_undo 0 = .ok (.aload_n 0, 1) := by decide +kernel
theorem dX8_undo_1 : decode cX8_undo 1 = .ok (.getfield 19, 3) := by decide +kernel
theorem dX8_undo_4 : decode cX8_undo 4 = .ok (.getfield 142, 3) := by decide +kernel
theorem dX8_undo_7 : decode cX8_undo 7 = .ok (.ifCond .ne 6, 3) := by decide +kernel
theorem dX8_undo_10 : decode cX8_undo 10 = .ok (.bipush (-2), 2) := by decide +kernel
theorem dX8_undo_12 : decode cX8_undo 12 = .ok (.ireturn, 1) := by decide +kernel
theorem dX8_undo_13 : decode cX8_undo 13 = .ok (.aload_n 0, 1) := by decide +kernel
theorem dX8_undo_14 : decode cX8_undo 14 = .ok (.getfield 19, 3) := by decide +kernel
theorem dX8_undo_17 : decode cX8_undo 17 = .ok (.aload_n 0, 1) := by decide +kernel
theorem dX8_undo_18 : decode cX8_undo 18 = .ok (.getfield 10, 3) := by decide +kernel
theorem dX8_undo_21 : decode cX8_undo 21 = .ok (.invokevirtual 191, 3) := by decide +kernel
theorem dX8_undo_24 : decode cX8_undo 24 = .ok (.aload_n 0, 1) := by decide +kernel
theorem dX8_undo_25 : decode cX8_undo 25 = .ok (.getfield 19, 3) := by decide +kernel
theorem dX8_undo_28 : decode cX8_undo 28 = .ok (.getfield 142, 3) := by decide +kernel
theorem dX8_undo_31 : decode cX8_undo 31 = .ok (.ireturn, 1) := by decide +kernel
set_option maxRecDepth 20000 in
theorem dX8_type_0 : decode cX8_type 0 = .ok (.iload_n 1, 1) := by decide +kernel
theorem dX8_type_1 : decode cX8_type 1 = .ok (.bipush 32, 2) := by decide +kernel
theorem dX8_type_3 : decode cX8_type 3 = .ok (.if_icmp .lt 9, 3) := by decide +kernel
theorem dX8_type_6 : decode cX8_type 6 = .ok (.iload_n 1, 1) := by decide +kernel
theorem dX8_type_7 : decode cX8_type 7 = .ok (.bipush 126, 2) := by decide +kernel
theorem dX8_type_9 : decode cX8_type 9 = .ok (.if_icmp .le 5, 3) := by decide +kernel
theorem dX8_type_12 : decode cX8_type 12 = .ok (.iconst (-1), 1) := by decide +kernel
theorem dX8_type_13 : decode cX8_type 13 = .ok (.ireturn, 1) := by decide +kernel
theorem dX8_type_14 : decode cX8_type 14 = .ok (.aload_n 0, 1) := by decide +kernel
theorem dX8_type_15 : decode cX8_type 15 = .ok (.getfield 26, 3) := by decide +kernel
theorem dX8_type_18 : decode cX8_type 18 = .ok (.iload_n 1, 1) := by decide +kernel
theorem dX8_type_19 : decode cX8_type 19 = .ok (.i2c, 1) := by decide +kernel
theorem dX8_type_20 : decode cX8_type 20 = .ok (.invokevirtual 194, 3) := by decide +kernel
theorem dX8_type_23 : decode cX8_type 23 = .ok (.ifCond .eq 13, 3) := by decide +kernel
theorem dX8_type_26 : decode cX8_type 26 = .ok (.aload_n 0, 1) := by decide +kernel
theorem dX8_type_27 : decode cX8_type 27 = .ok (.getfield 26, 3) := by decide +kernel
theorem dX8_type_30 : decode cX8_type 30 = .ok (.getfield 143, 3) := by decide +kernel
theorem dX8_type_33 : decode cX8_type 33 = .ok (.goto 5, 3) := by decide +kernel
theorem dX8_type_36 : decode cX8_type 36 = .ok (.bipush (-3), 2) := by decide +kernel
theorem dX8_type_38 : decode cX8_type 38 = .ok (.ireturn, 1) := by decide +kernel
set_option maxRecDepth 20000 in
theorem dX8_clearText_0 : decode cX8_clearText 0 = .ok (.aload_n 0, 1) := by decide +kernel
theorem dX8_clearText_1 : decode cX8_clearText 1 = .ok (.getfield 26, 3) := by decide +kernel
theorem dX8_clearText_4 : decode cX8_clearText 4 = .ok (.invokevirtual 198, 3) := by decide +kernel
theorem dX8_clearText_7 : decode cX8_clearText 7 = .ok (.ireturn, 1) := by decide +kernel
set_option maxRecDepth 20000 in
theorem dX8_fault_0 : decode cX8_fault 0 = .ok (.iload_n 1, 1) := by decide +kernel
theorem dX8_fault_1 : decode cX8_fault 1 = .ok (.iconst 2, 1) := by decide +kernel
theorem dX8_fault_2 : decode cX8_fault 2 = .ok (.invokestatic 78, 3) := by decide +kernel
theorem dX8_fault_5 : decode cX8_fault 5 = .ok (.ifCond .ne 5, 3) := by decide +kernel
theorem dX8_fault_8 : decode cX8_fault 8 = .ok (.iconst (-1), 1) := by decide +kernel
theorem dX8_fault_9 : decode cX8_fault 9 = .ok (.ireturn, 1) := by decide +kernel
theorem dX8_fault_10 : decode cX8_fault 10 = .ok (.aload_n 0, 1) := by decide +kernel
theorem dX8_fault_11 : decode cX8_fault 11 = .ok (.getfield 40, 3) := by decide +kernel
theorem dX8_fault_14 : decode cX8_fault 14 = .ok (.aload_n 0, 1) := by decide +kernel
theorem dX8_fault_15 : decode cX8_fault 15 = .ok (.getfield 26, 3) := by decide +kernel
theorem dX8_fault_18 : decode cX8_fault 18 = .ok (.aload_n 0, 1) := by decide +kernel
theorem dX8_fault_19 : decode cX8_fault 19 = .ok (.getfield 10, 3) := by decide +kernel
theorem dX8_fault_22 : decode cX8_fault 22 = .ok (.invokevirtual 201, 3) := by decide +kernel
theorem dX8_fault_25 : decode cX8_fault 25 = .ok (.aload_n 0, 1) := by decide +kernel
theorem dX8_fault_26 : decode cX8_fault 26 = .ok (.getfield 40, 3) := by decide +kernel
theorem dX8_fault_29 : decode cX8_fault 29 = .ok (.getfield 205, 3) := by decide +kernel
theorem dX8_fault_32 : decode cX8_fault 32 = .ok (.ifCond .eq 19, 3) := by decide +kernel
theorem dX8_fault_35 : decode cX8_fault 35 = .ok (.iload_n 1, 1) := by decide +kernel
theorem dX8_fault_36 : decode cX8_fault 36 = .ok (.iconst 2, 1) := by decide +kernel
theorem dX8_fault_37 : decode cX8_fault 37 = .ok (.if_icmp .ne 17, 3) := by decide +kernel
theorem dX8_fault_40 : decode cX8_fault 40 = .ok (.aload_n 0, 1) := by decide +kernel
theorem dX8_fault_41 : decode cX8_fault 41 = .ok (.getfield 40, 3) := by decide +kernel
theorem dX8_fault_44 : decode cX8_fault 44 = .ok (.getfield 205, 3) := by decide +kernel
theorem dX8_fault_47 : decode cX8_fault 47 = .ok (.iconst 1, 1) := by decide +kernel
theorem dX8_fault_48 : decode cX8_fault 48 = .ok (.if_icmp .ne 6, 3) := by decide +kernel
theorem dX8_fault_51 : decode cX8_fault 51 = .ok (.bipush (-4), 2) := by decide +kernel
theorem dX8_fault_53 : decode cX8_fault 53 = .ok (.ireturn, 1) := by decide +kernel
theorem dX8_fault_54 : decode cX8_fault 54 = .ok (.iload_n 1, 1) := by decide +kernel
theorem dX8_fault_55 : decode cX8_fault 55 = .ok (.ifCond .ne 11, 3) := by decide +kernel
theorem dX8_fault_58 : decode cX8_fault 58 = .ok (.aload_n 0, 1) := by decide +kernel
theorem dX8_fault_59 : decode cX8_fault 59 = .ok (.getfield 40, 3) := by decide +kernel
theorem dX8_fault_62 : decode cX8_fault 62 = .ok (.getfield 208, 3) := by decide +kernel
theorem dX8_fault_65 : decode cX8_fault 65 = .ok (.ireturn, 1) := by decide +kernel
theorem dX8_fault_66 : decode cX8_fault 66 = .ok (.iload_n 1, 1) := by decide +kernel
theorem dX8_fault_67 : decode cX8_fault 67 = .ok (.iconst 1, 1) := by decide +kernel
theorem dX8_fault_68 : decode cX8_fault 68 = .ok (.if_icmp .ne 13, 3) := by decide +kernel
theorem dX8_fault_71 : decode cX8_fault 71 = .ok (.aload_n 0, 1) := by decide +kernel
theorem dX8_fault_72 : decode cX8_fault 72 = .ok (.getfield 40, 3) := by decide +kernel
theorem dX8_fault_75 : decode cX8_fault 75 = .ok (.getfield 205, 3) := by decide +kernel
theorem dX8_fault_78 : decode cX8_fault 78 = .ok (.goto 10, 3) := by decide +kernel
theorem dX8_fault_81 : decode cX8_fault 81 = .ok (.aload_n 0, 1) := by decide +kernel
theorem dX8_fault_82 : decode cX8_fault 82 = .ok (.getfield 40, 3) := by decide +kernel
theorem dX8_fault_85 : decode cX8_fault 85 = .ok (.getfield 211, 3) := by decide +kernel
theorem dX8_fault_88 : decode cX8_fault 88 = .ok (.ireturn, 1) := by decide +kernel
set_option maxRecDepth 20000 in
theorem dX8_play_0 : decode cX8_play 0 = .ok (.aload_n 0, 1) := by decide +kernel
theorem dX8_play_1 : decode cX8_play 1 = .ok (.getfield 40, 3) := by decide +kernel
theorem dX8_play_4 : decode cX8_play 4 = .ok (.aload_n 0, 1) := by decide +kernel
theorem dX8_play_5 : decode cX8_play 5 = .ok (.getfield 26, 3) := by decide +kernel
theorem dX8_play_8 : decode cX8_play 8 = .ok (.aload_n 0, 1) := by decide +kernel
theorem dX8_play_9 : decode cX8_play 9 = .ok (.getfield 10, 3) := by decide +kernel
theorem dX8_play_12 : decode cX8_play 12 = .ok (.invokevirtual 201, 3) := by decide +kernel
theorem dX8_play_15 : decode cX8_play 15 = .ok (.aload_n 0, 1) := by decide +kernel
theorem dX8_play_16 : decode cX8_play 16 = .ok (.getfield 40, 3) := by decide +kernel
theorem dX8_play_19 : decode cX8_play 19 = .ok (.getfield 205, 3) := by decide +kernel
theorem dX8_play_22 : decode cX8_play 22 = .ok (.ifCond .eq 6, 3) := by decide +kernel
theorem dX8_play_25 : decode cX8_play 25 = .ok (.bipush (-2), 2) := by decide +kernel
theorem dX8_play_27 : decode cX8_play 27 = .ok (.ireturn, 1) := by decide +kernel
theorem dX8_play_28 : decode cX8_play 28 = .ok (.aload_n 0, 1) := by decide +kernel
theorem dX8_play_29 : decode cX8_play 29 = .ok (.getfield 19, 3) := by decide +kernel
theorem dX8_play_32 : decode cX8_play 32 = .ok (.aload_n 0, 1) := by decide +kernel
theorem dX8_play_33 : decode cX8_play 33 = .ok (.getfield 10, 3) := by decide +kernel
theorem dX8_play_36 : decode cX8_play 36 = .ok (.invokevirtual 67, 3) := by decide +kernel
theorem dX8_play_39 : decode cX8_play 39 = .ok (.aload_n 0, 1) := by decide +kernel
theorem dX8_play_40 : decode cX8_play 40 = .ok (.getfield 10, 3) := by decide +kernel
theorem dX8_play_43 : decode cX8_play 43 = .ok (.aload_n 0, 1) := by decide +kernel
theorem dX8_play_44 : decode cX8_play 44 = .ok (.getfield 40, 3) := by decide +kernel
theorem dX8_play_47 : decode cX8_play 47 = .ok (.getfield 214, 3) := by decide +kernel
theorem dX8_play_50 : decode cX8_play 50 = .ok (.invokevirtual 217, 3) := by decide +kernel
theorem dX8_play_53 : decode cX8_play 53 = .ok (.aload_n 0, 1) := by decide +kernel
theorem dX8_play_54 : decode cX8_play 54 = .ok (.getfield 40, 3) := by decide +kernel
theorem dX8_play_57 : decode cX8_play 57 = .ok (.getfield 219, 3) := by decide +kernel
theorem dX8_play_60 : decode cX8_play 60 = .ok (.ireturn, 1) := by decide +kernel
theorem dX8_within_0 : decode cX8_within 0 = .ok (.iload_n 0, 1) := by decide +kernel
theorem dX8_within_1 : decode cX8_within 1 = .ok (.ifCond .lt 12, 3) := by decide +kernel
theorem dX8_within_4 : decode cX8_within 4 = .ok (.iload_n 0, 1) := by decide +kernel
theorem dX8_within_5 : decode cX8_within 5 = .ok (.iload_n 1, 1) := by decide +kernel
theorem dX8_within_6 : decode cX8_within 6 = .ok (.if_icmp .gt 7, 3) := by decide +kernel
theorem dX8_within_9 : decode cX8_within 9 = .ok (.iconst 1, 1) := by decide +kernel
theorem dX8_within_10 : decode cX8_within 10 = .ok (.goto 4, 3) := by decide +kernel
theorem dX8_within_13 : decode cX8_within 13 = .ok (.iconst 0, 1) := by decide +kernel
theorem dX8_within_14 : decode cX8_within 14 = .ok (.ireturn, 1) := by decide +kernel
theorem dX8_isThing_0 : decode cX8_isThing 0 = .ok (.iload_n 0, 1) := by decide +kernel
theorem dX8_isThing_1 : decode cX8_isThing 1 = .ok (.ifCond .lt 14, 3) := by decide +kernel
theorem dX8_isThing_4 : decode cX8_isThing 4 = .ok (.iload_n 0, 1) := by decide +kernel
theorem dX8_isThing_5 : decode cX8_isThing 5 = .ok (.sipush 1000, 3) := by decide +kernel
theorem dX8_isThing_8 : decode cX8_isThing 8 = .ok (.if_icmp .ge 7, 3) := by decide +kernel
theorem dX8_isThing_11 : decode cX8_isThing 11 = .ok (.iconst 1, 1) := by decide +kernel
theorem dX8_isThing_12 : decode cX8_isThing 12 = .ok (.goto 4, 3) := by decide +kernel
theorem dX8_isThing_15 : decode cX8_isThing 15 = .ok (.iconst 0, 1) := by decide +kernel
theorem dX8_isThing_16 : decode cX8_isThing 16 = .ok (.ireturn, 1) := by decide +kernel
theorem dX8_hashOf_0 : decode cX8_hashOf 0 = .ok (.iload_n 0, 1) := by decide +kernel
theorem dX8_hashOf_1 : decode cX8_hashOf 1 = .ok (.ldc 222, 2) := by decide +kernel
theorem dX8_hashOf_3 : decode cX8_hashOf 3 = .ok (.imul, 1) := by decide +kernel
theorem dX8_hashOf_4 : decode cX8_hashOf 4 = .ok (.iload_n 1, 1) := by decide +kernel
theorem dX8_hashOf_5 : decode cX8_hashOf 5 = .ok (.sipush 9973, 3) := by decide +kernel
theorem dX8_hashOf_8 : decode cX8_hashOf 8 = .ok (.imul, 1) := by decide +kernel
theorem dX8_hashOf_9 : decode cX8_hashOf 9 = .ok (.iadd, 1) := by decide +kernel
theorem dX8_hashOf_10 : decode cX8_hashOf 10 = .ok (.sipush 7919, 3) := by decide +kernel
theorem dX8_hashOf_13 : decode cX8_hashOf 13 = .ok (.iadd, 1) := by decide +kernel
theorem dX8_hashOf_14 : decode cX8_hashOf 14 = .ok (.ldc 223, 2) := by decide +kernel
theorem dX8_hashOf_16 : decode cX8_hashOf 16 = .ok (.irem, 1) := by decide +kernel
theorem dX8_hashOf_17 : decode cX8_hashOf 17 = .ok (.istore_n 2, 1) := by decide +kernel
theorem dX8_hashOf_18 : decode cX8_hashOf 18 = .ok (.iload_n 2, 1) := by decide +kernel
theorem dX8_hashOf_19 : decode cX8_hashOf 19 = .ok (.iload_n 2, 1) := by decide +kernel
theorem dX8_hashOf_20 : decode cX8_hashOf 20 = .ok (.sipush 128, 3) := by decide +kernel
theorem dX8_hashOf_23 : decode cX8_hashOf 23 = .ok (.idiv, 1) := by decide +kernel
theorem dX8_hashOf_24 : decode cX8_hashOf 24 = .ok (.ixor, 1) := by decide +kernel
theorem dX8_hashOf_25 : decode cX8_hashOf 25 = .ok (.sipush 25173, 3) := by decide +kernel
theorem dX8_hashOf_28 : decode cX8_hashOf 28 = .ok (.imul, 1) := by decide +kernel
theorem dX8_hashOf_29 : decode cX8_hashOf 29 = .ok (.ldc 223, 2) := by decide +kernel
theorem dX8_hashOf_31 : decode cX8_hashOf 31 = .ok (.irem, 1) := by decide +kernel
theorem dX8_hashOf_32 : decode cX8_hashOf 32 = .ok (.istore_n 2, 1) := by decide +kernel
theorem dX8_hashOf_33 : decode cX8_hashOf 33 = .ok (.iload_n 2, 1) := by decide +kernel
theorem dX8_hashOf_34 : decode cX8_hashOf 34 = .ok (.iload_n 2, 1) := by decide +kernel
theorem dX8_hashOf_35 : decode cX8_hashOf 35 = .ok (.sipush 256, 3) := by decide +kernel
theorem dX8_hashOf_38 : decode cX8_hashOf 38 = .ok (.idiv, 1) := by decide +kernel
theorem dX8_hashOf_39 : decode cX8_hashOf 39 = .ok (.ixor, 1) := by decide +kernel
theorem dX8_hashOf_40 : decode cX8_hashOf 40 = .ok (.ireturn, 1) := by decide +kernel
theorem dX8_rankOf_0 : decode cX8_rankOf 0 = .ok (.iconst 1, 1) := by decide +kernel
theorem dX8_rankOf_1 : decode cX8_rankOf 1 = .ok (.istore_n 1, 1) := by decide +kernel
theorem dX8_rankOf_2 : decode cX8_rankOf 2 = .ok (.iload_n 0, 1) := by decide +kernel
theorem dX8_rankOf_3 : decode cX8_rankOf 3 = .ok (.istore_n 2, 1) := by decide +kernel
theorem dX8_rankOf_4 : decode cX8_rankOf 4 = .ok (.iload_n 1, 1) := by decide +kernel
theorem dX8_rankOf_5 : decode cX8_rankOf 5 = .ok (.bipush 14, 2) := by decide +kernel
theorem dX8_rankOf_7 : decode cX8_rankOf 7 = .ok (.if_icmp .ge 19, 3) := by decide +kernel
theorem dX8_rankOf_10 : decode cX8_rankOf 10 = .ok (.iload_n 2, 1) := by decide +kernel
theorem dX8_rankOf_11 : decode cX8_rankOf 11 = .ok (.iconst 2, 1) := by decide +kernel
theorem dX8_rankOf_12 : decode cX8_rankOf 12 = .ok (.irem, 1) := by decide +kernel
theorem dX8_rankOf_13 : decode cX8_rankOf 13 = .ok (.ifCond .ne 13, 3) := by decide +kernel
theorem dX8_rankOf_16 : decode cX8_rankOf 16 = .ok (.iload_n 2, 1) := by decide +kernel
theorem dX8_rankOf_17 : decode cX8_rankOf 17 = .ok (.iconst 2, 1) := by decide +kernel
theorem dX8_rankOf_18 : decode cX8_rankOf 18 = .ok (.idiv, 1) := by decide +kernel
theorem dX8_rankOf_19 : decode cX8_rankOf 19 = .ok (.istore_n 2, 1) := by decide +kernel
theorem dX8_rankOf_20 : decode cX8_rankOf 20 = .ok (.iinc 1 1, 3) := by decide +kernel
theorem dX8_rankOf_23 : decode cX8_rankOf 23 = .ok (.goto (-19), 3) := by decide +kernel
theorem dX8_rankOf_26 : decode cX8_rankOf 26 = .ok (.iload_n 1, 1) := by decide +kernel
theorem dX8_rankOf_27 : decode cX8_rankOf 27 = .ok (.ireturn, 1) := by decide +kernel
theorem dX8_spread_0 : decode cX8_spread 0 = .ok (.iconst 0, 1) := by decide +kernel
theorem dX8_spread_1 : decode cX8_spread 1 = .ok (.istore_n 2, 1) := by decide +kernel
theorem dX8_spread_2 : decode cX8_spread 2 = .ok (.iconst 1, 1) := by decide +kernel
theorem dX8_spread_3 : decode cX8_spread 3 = .ok (.istore_n 3, 1) := by decide +kernel
theorem dX8_spread_4 : decode cX8_spread 4 = .ok (.iload_n 3, 1) := by decide +kernel
theorem dX8_spread_5 : decode cX8_spread 5 = .ok (.iload_n 0, 1) := by decide +kernel
theorem dX8_spread_6 : decode cX8_spread 6 = .ok (.if_icmp .gt 24, 3) := by decide +kernel
theorem dX8_spread_9 : decode cX8_spread 9 = .ok (.iload_n 3, 1) := by decide +kernel
theorem dX8_spread_10 : decode cX8_spread 10 = .ok (.iload_n 1, 1) := by decide +kernel
theorem dX8_spread_11 : decode cX8_spread 11 = .ok (.if_icmp .le 13, 3) := by decide +kernel
theorem dX8_spread_14 : decode cX8_spread 14 = .ok (.iload_n 2, 1) := by decide +kernel
theorem dX8_spread_15 : decode cX8_spread 15 = .ok (.iload_n 0, 1) := by decide +kernel
theorem dX8_spread_16 : decode cX8_spread 16 = .ok (.sipush 1000, 3) := by decide +kernel
theorem dX8_spread_19 : decode cX8_spread 19 = .ok (.imul, 1) := by decide +kernel
theorem dX8_spread_20 : decode cX8_spread 20 = .ok (.iload_n 3, 1) := by decide +kernel
theorem dX8_spread_21 : decode cX8_spread 21 = .ok (.idiv, 1) := by decide +kernel
theorem dX8_spread_22 : decode cX8_spread 22 = .ok (.iadd, 1) := by decide +kernel
theorem dX8_spread_23 : decode cX8_spread 23 = .ok (.istore_n 2, 1) := by decide +kernel
theorem dX8_spread_24 : decode cX8_spread 24 = .ok (.iinc 3 1, 3) := by decide +kernel
theorem dX8_spread_27 : decode cX8_spread 27 = .ok (.goto (-23), 3) := by decide +kernel
theorem dX8_spread_30 : decode cX8_spread 30 = .ok (.iload_n 2, 1) := by decide +kernel
theorem dX8_spread_31 : decode cX8_spread 31 = .ok (.sipush 1000, 3) := by decide +kernel
theorem dX8_spread_34 : decode cX8_spread 34 = .ok (.idiv, 1) := by decide +kernel
theorem dX8_spread_35 : decode cX8_spread 35 = .ok (.ireturn, 1) := by decide +kernel
theorem dX8_bitsOfQuotient_0 : decode cX8_bitsOfQuotient 0 = .ok (.iload_n 0, 1) := by decide +kernel
theorem dX8_bitsOfQuotient_1 : decode cX8_bitsOfQuotient 1 = .ok (.ifCond .eq 7, 3) := by decide +kernel
theorem dX8_bitsOfQuotient_4 : decode cX8_bitsOfQuotient 4 = .ok (.iload_n 1, 1) := by decide +kernel
theorem dX8_bitsOfQuotient_5 : decode cX8_bitsOfQuotient 5 = .ok (.ifCond .gt 5, 3) := by decide +kernel
theorem dX8_bitsOfQuotient_8 : decode cX8_bitsOfQuotient 8 = .ok (.iconst 0, 1) := by decide +kernel
theorem dX8_bitsOfQuotient_9 : decode cX8_bitsOfQuotient 9 = .ok (.ireturn, 1) := by decide +kernel
theorem dX8_bitsOfQuotient_10 : decode cX8_bitsOfQuotient 10 = .ok (.iload_n 0, 1) := by decide +kernel
theorem dX8_bitsOfQuotient_11 : decode cX8_bitsOfQuotient 11 = .ok (.invokestatic 224, 3) := by decide +kernel
theorem dX8_bitsOfQuotient_14 : decode cX8_bitsOfQuotient 14 = .ok (.i2l, 1) := by decide +kernel
theorem dX8_bitsOfQuotient_15 : decode cX8_bitsOfQuotient 15 = .ok (.lstore_n 2, 1) := by decide +kernel
theorem dX8_bitsOfQuotient_16 : decode cX8_bitsOfQuotient 16 = .ok (.iload_n 1, 1) := by decide +kernel
theorem dX8_bitsOfQuotient_17 : decode cX8_bitsOfQuotient 17 = .ok (.i2l, 1) := by decide +kernel
theorem dX8_bitsOfQuotient_18 : decode cX8_bitsOfQuotient 18 = .ok (.bipush 23, 2) := by decide +kernel
theorem dX8_bitsOfQuotient_20 : decode cX8_bitsOfQuotient 20 = .ok (.lshl, 1) := by decide +kernel
theorem dX8_bitsOfQuotient_21 : decode cX8_bitsOfQuotient 21 = .ok (.lstore 4, 2) := by decide +kernel
theorem dX8_bitsOfQuotient_23 : decode cX8_bitsOfQuotient 23 = .ok (.iconst 0, 1) := by decide +kernel
theorem dX8_bitsOfQuotient_24 : decode cX8_bitsOfQuotient 24 = .ok (.istore 6, 2) := by decide +kernel
theorem dX8_bitsOfQuotient_26 : decode cX8_bitsOfQuotient 26 = .ok (.iload 6, 2) := by decide +kernel
theorem dX8_bitsOfQuotient_28 : decode cX8_bitsOfQuotient 28 = .ok (.bipush 40, 2) := by decide +kernel
theorem dX8_bitsOfQuotient_30 : decode cX8_bitsOfQuotient 30 = .ok (.if_icmp .ge 19, 3) := by decide +kernel
theorem dX8_bitsOfQuotient_33 : decode cX8_bitsOfQuotient 33 = .ok (.lload_n 2, 1) := by decide +kernel
theorem dX8_bitsOfQuotient_34 : decode cX8_bitsOfQuotient 34 = .ok (.iload 6, 2) := by decide +kernel
theorem dX8_bitsOfQuotient_36 : decode cX8_bitsOfQuotient 36 = .ok (.lshl, 1) := by decide +kernel
theorem dX8_bitsOfQuotient_37 : decode cX8_bitsOfQuotient 37 = .ok (.lload 4, 2) := by decide +kernel
theorem dX8_bitsOfQuotient_39 : decode cX8_bitsOfQuotient 39 = .ok (.lcmp, 1) := by decide +kernel
theorem dX8_bitsOfQuotient_40 : decode cX8_bitsOfQuotient 40 = .ok (.ifCond .ge 9, 3) := by decide +kernel
theorem dX8_bitsOfQuotient_43 : decode cX8_bitsOfQuotient 43 = .ok (.iinc 6 1, 3) := by decide +kernel
theorem dX8_bitsOfQuotient_46 : decode cX8_bitsOfQuotient 46 = .ok (.goto (-20), 3) := by decide +kernel
theorem dX8_bitsOfQuotient_49 : decode cX8_bitsOfQuotient 49 = .ok (.lload_n 2, 1) := by decide +kernel
theorem dX8_bitsOfQuotient_50 : decode cX8_bitsOfQuotient 50 = .ok (.iload 6, 2) := by decide +kernel
theorem dX8_bitsOfQuotient_52 : decode cX8_bitsOfQuotient 52 = .ok (.iconst 1, 1) := by decide +kernel
theorem dX8_bitsOfQuotient_53 : decode cX8_bitsOfQuotient 53 = .ok (.iadd, 1) := by decide +kernel
theorem dX8_bitsOfQuotient_54 : decode cX8_bitsOfQuotient 54 = .ok (.lshl, 1) := by decide +kernel
theorem dX8_bitsOfQuotient_55 : decode cX8_bitsOfQuotient 55 = .ok (.iload_n 1, 1) := by decide +kernel
theorem dX8_bitsOfQuotient_56 : decode cX8_bitsOfQuotient 56 = .ok (.i2l, 1) := by decide +kernel
theorem dX8_bitsOfQuotient_57 : decode cX8_bitsOfQuotient 57 = .ok (.ldiv, 1) := by decide +kernel
theorem dX8_bitsOfQuotient_58 : decode cX8_bitsOfQuotient 58 = .ok (.lconst 1, 1) := by decide +kernel
theorem dX8_bitsOfQuotient_59 : decode cX8_bitsOfQuotient 59 = .ok (.ladd, 1) := by decide +kernel
theorem dX8_bitsOfQuotient_60 : decode cX8_bitsOfQuotient 60 = .ok (.ldc2_w 227, 3) := by decide +kernel
theorem dX8_bitsOfQuotient_63 : decode cX8_bitsOfQuotient 63 = .ok (.ldiv, 1) := by decide +kernel
theorem dX8_bitsOfQuotient_64 : decode cX8_bitsOfQuotient 64 = .ok (.l2i, 1) := by decide +kernel
theorem dX8_bitsOfQuotient_65 : decode cX8_bitsOfQuotient 65 = .ok (.istore 7, 2) := by decide +kernel
theorem dX8_bitsOfQuotient_67 : decode cX8_bitsOfQuotient 67 = .ok (.sipush 150, 3) := by decide +kernel
theorem dX8_bitsOfQuotient_70 : decode cX8_bitsOfQuotient 70 = .ok (.iload 6, 2) := by decide +kernel
theorem dX8_bitsOfQuotient_72 : decode cX8_bitsOfQuotient 72 = .ok (.isub, 1) := by decide +kernel
theorem dX8_bitsOfQuotient_73 : decode cX8_bitsOfQuotient 73 = .ok (.bipush 23, 2) := by decide +kernel
theorem dX8_bitsOfQuotient_75 : decode cX8_bitsOfQuotient 75 = .ok (.ishl, 1) := by decide +kernel
theorem dX8_bitsOfQuotient_76 : decode cX8_bitsOfQuotient 76 = .ok (.iload 7, 2) := by decide +kernel
theorem dX8_bitsOfQuotient_78 : decode cX8_bitsOfQuotient 78 = .ok (.ldc 229, 2) := by decide +kernel
theorem dX8_bitsOfQuotient_80 : decode cX8_bitsOfQuotient 80 = .ok (.isub, 1) := by decide +kernel
theorem dX8_bitsOfQuotient_81 : decode cX8_bitsOfQuotient 81 = .ok (.iadd, 1) := by decide +kernel
theorem dX8_bitsOfQuotient_82 : decode cX8_bitsOfQuotient 82 = .ok (.istore 8, 2) := by decide +kernel
theorem dX8_bitsOfQuotient_84 : decode cX8_bitsOfQuotient 84 = .ok (.iload_n 0, 1) := by decide +kernel
theorem dX8_bitsOfQuotient_85 : decode cX8_bitsOfQuotient 85 = .ok (.ifCond .ge 11, 3) := by decide +kernel
theorem dX8_bitsOfQuotient_88 : decode cX8_bitsOfQuotient 88 = .ok (.iload 8, 2) := by decide +kernel
theorem dX8_bitsOfQuotient_90 : decode cX8_bitsOfQuotient 90 = .ok (.ldc 230, 2) := by decide +kernel
theorem dX8_bitsOfQuotient_92 : decode cX8_bitsOfQuotient 92 = .ok (.ior, 1) := by decide +kernel
theorem dX8_bitsOfQuotient_93 : decode cX8_bitsOfQuotient 93 = .ok (.goto 5, 3) := by decide +kernel
theorem dX8_bitsOfQuotient_96 : decode cX8_bitsOfQuotient 96 = .ok (.iload 8, 2) := by decide +kernel
theorem dX8_bitsOfQuotient_98 : decode cX8_bitsOfQuotient 98 = .ok (.ireturn, 1) := by decide +kernel
theorem dX9_init_0 : decode cX9_init 0 = .ok (.aload_n 0, 1) := by decide +kernel
theorem dX9_init_1 : decode cX9_init 1 = .ok (.invokespecial 1, 3) := by decide +kernel
theorem dX9_init_4 : decode cX9_init 4 = .ok (.aload_n 0, 1) := by decide +kernel
theorem dX9_init_5 : decode cX9_init 5 = .ok (.sipush 6165, 3) := by decide +kernel
theorem dX9_init_8 : decode cX9_init 8 = .ok (.newarray .int, 2) := by decide +kernel
theorem dX9_init_10 : decode cX9_init 10 = .ok (.putfield 7, 3) := by decide +kernel
theorem dX9_init_13 : decode cX9_init 13 = .ok (.aload_n 0, 1) := by decide +kernel
theorem dX9_init_14 : decode cX9_init 14 = .ok (.sipush 6165, 3) := by decide +kernel
theorem dX9_init_17 : decode cX9_init 17 = .ok (.newarray .int, 2) := by decide +kernel
theorem dX9_init_19 : decode cX9_init 19 = .ok (.putfield 13, 3) := by decide +kernel
theorem dX9_init_22 : decode cX9_init 22 = .ok (.aload_n 0, 1) := by decide +kernel
theorem dX9_init_23 : decode cX9_init 23 = .ok (.sipush 6165, 3) := by decide +kernel
theorem dX9_init_26 : decode cX9_init 26 = .ok (.newarray .int, 2) := by decide +kernel
theorem dX9_init_28 : decode cX9_init 28 = .ok (.putfield 16, 3) := by decide +kernel
theorem dX9_init_31 : decode cX9_init 31 = .ok (.aload_n 0, 1) := by decide +kernel
theorem dX9_init_32 : decode cX9_init 32 = .ok (.sipush 6165, 3) := by decide +kernel
theorem dX9_init_35 : decode cX9_init 35 = .ok (.newarray .int, 2) := by decide +kernel
theorem dX9_init_37 : decode cX9_init 37 = .ok (.putfield 19, 3) := by decide +kernel
theorem dX9_init_40 : decode cX9_init 40 = .ok (.aload_n 0, 1) := by decide +kernel
theorem dX9_init_41 : decode cX9_init 41 = .ok (.sipush 6165, 3) := by decide +kernel
theorem dX9_init_44 : decode cX9_init 44 = .ok (.newarray .int, 2) := by decide +kernel
theorem dX9_init_46 : decode cX9_init 46 = .ok (.putfield 22, 3) := by decide +kernel
theorem dX9_init_49 : decode cX9_init 49 = .ok (.aload_n 0, 1) := by decide +kernel
theorem dX9_init_50 : decode cX9_init 50 = .ok (.sipush 6165, 3) := by decide +kernel
theorem dX9_init_53 : decode cX9_init 53 = .ok (.newarray .int, 2) := by decide +kernel
theorem dX9_init_55 : decode cX9_init 55 = .ok (.putfield 25, 3) := by decide +kernel
theorem dX9_init_58 : decode cX9_init 58 = .ok (.aload_n 0, 1) := by decide +kernel
theorem dX9_init_59 : decode cX9_init 59 = .ok (.bipush 23, 2) := by decide +kernel
theorem dX9_init_61 : decode cX9_init 61 = .ok (.newarray .int, 2) := by decide +kernel
theorem dX9_init_63 : decode cX9_init 63 = .ok (.putfield 28, 3) := by decide +kernel
theorem dX9_init_66 : decode cX9_init 66 = .ok (.aload_n 0, 1) := by decide +kernel
theorem dX9_init_67 : decode cX9_init 67 = .ok (.bipush 80, 2) := by decide +kernel
theorem dX9_init_69 : decode cX9_init 69 = .ok (.newarray .int, 2) := by decide +kernel
theorem dX9_init_71 : decode cX9_init 71 = .ok (.putfield 31, 3) := by decide +kernel
theorem dX9_init_74 : decode cX9_init 74 = .ok (.return_, 1) := by decide +kernel
theorem dX9_in_0 : decode cX9_in 0 = .ok (.iload_n 0, 1) := by decide +kernel
theorem dX9_in_1 : decode cX9_in 1 = .ok (.iload_n 1, 1) := by decide +kernel
theorem dX9_in_2 : decode cX9_in 2 = .ok (.if_icmp .lt 12, 3) := by decide +kernel
theorem dX9_in_5 : decode cX9_in 5 = .ok (.iload_n 0, 1) := by decide +kernel
theorem dX9_in_6 : decode cX9_in 6 = .ok (.iload_n 2, 1) := by decide +kernel
theorem dX9_in_7 : decode cX9_in 7 = .ok (.if_icmp .gt 7, 3) := by decide +kernel
theorem dX9_in_10 : decode cX9_in 10 = .ok (.iconst 1, 1) := by decide +kernel
theorem dX9_in_11 : decode cX9_in 11 = .ok (.goto 4, 3) := by decide +kernel
theorem dX9_in_14 : decode cX9_in 14 = .ok (.iconst 0, 1) := by decide +kernel
theorem dX9_in_15 : decode cX9_in 15 = .ok (.ireturn, 1) := by decide +kernel
theorem dX9_copy_0 : decode cX9_copy 0 = .ok (.iconst 0, 1) := by decide +kernel
theorem dX9_copy_1 : decode cX9_copy 1 = .ok (.istore_n 2, 1) := by decide +kernel
theorem dX9_copy_2 : decode cX9_copy 2 = .ok (.iload_n 2, 1) := by decide +kernel
theorem dX9_copy_3 : decode cX9_copy 3 = .ok (.sipush 6165, 3) := by decide +kernel
theorem dX9_copy_6 : decode cX9_copy 6 = .ok (.if_icmp .ge 15, 3) := by decide +kernel
theorem dX9_copy_9 : decode cX9_copy 9 = .ok (.aload_n 1, 1) := by decide +kernel
theorem dX9_copy_10 : decode cX9_copy 10 = .ok (.iload_n 2, 1) := by decide +kernel
theorem dX9_copy_11 : decode cX9_copy 11 = .ok (.aload_n 0, 1) := by decide +kernel
theorem dX9_copy_12 : decode cX9_copy 12 = .ok (.iload_n 2, 1) := by decide +kernel
theorem dX9_copy_13 : decode cX9_copy 13 = .ok (.iaload, 1) := by decide +kernel
theorem dX9_copy_14 : decode cX9_copy 14 = .ok (.iastore, 1) := by decide +kernel
theorem dX9_copy_15 : decode cX9_copy 15 = .ok (.iinc 2 1, 3) := by decide +kernel
theorem dX9_copy_18 : decode cX9_copy 18 = .ok (.goto (-16), 3) := by decide +kernel
theorem dX9_copy_21 : decode cX9_copy 21 = .ok (.return_, 1) := by decide +kernel
set_option maxRecDepth 20000 in
theorem dX9_lays_0 : decode cX9_lays 0 = .ok (.iload_n 1, 1) := by decide +kernel
theorem dX9_lays_1 : decode cX9_lays 1 = .ok (.tableswitch 69 0 2 #[27, 41, 55], 27) := by decide +kernel
theorem dX9_lays_28 : decode cX9_lays 28 = .ok (.aload_n 0, 1) := by decide +kernel
theorem dX9_lays_29 : decode cX9_lays 29 = .ok (.getfield 7, 3) := by decide +kernel
theorem dX9_lays_32 : decode cX9_lays 32 = .ok (.aload_n 0, 1) := by decide +kernel
theorem dX9_lays_33 : decode cX9_lays 33 = .ok (.getfield 16, 3) := by decide +kernel
theorem dX9_lays_36 : decode cX9_lays 36 = .ok (.invokestatic 34, 3) := by decide +kernel
theorem dX9_lays_39 : decode cX9_lays 39 = .ok (.goto 42, 3) := by decide +kernel
theorem dX9_lays_42 : decode cX9_lays 42 = .ok (.aload_n 0, 1) := by decide +kernel
theorem dX9_lays_43 : decode cX9_lays 43 = .ok (.getfield 7, 3) := by decide +kernel
theorem dX9_lays_46 : decode cX9_lays 46 = .ok (.aload_n 0, 1) := by decide +kernel
theorem dX9_lays_47 : decode cX9_lays 47 = .ok (.getfield 19, 3) := by decide +kernel
theorem dX9_lays_50 : decode cX9_lays 50 = .ok (.invokestatic 34, 3) := by decide +kernel
theorem dX9_lays_53 : decode cX9_lays 53 = .ok (.goto 28, 3) := by decide +kernel
theorem dX9_lays_56 : decode cX9_lays 56 = .ok (.aload_n 0, 1) := by decide +kernel
theorem dX9_lays_57 : decode cX9_lays 57 = .ok (.getfield 7, 3) := by decide +kernel
theorem dX9_lays_60 : decode cX9_lays 60 = .ok (.aload_n 0, 1) := by decide +kernel
theorem dX9_lays_61 : decode cX9_lays 61 = .ok (.getfield 22, 3) := by decide +kernel
theorem dX9_lays_64 : decode cX9_lays 64 = .ok (.invokestatic 34, 3) := by decide +kernel
theorem dX9_lays_67 : decode cX9_lays 67 = .ok (.goto 14, 3) := by decide +kernel
theorem dX9_lays_70 : decode cX9_lays 70 = .ok (.aload_n 0, 1) := by decide +kernel
theorem dX9_lays_71 : decode cX9_lays 71 = .ok (.getfield 7, 3) := by decide +kernel
theorem dX9_lays_74 : decode cX9_lays 74 = .ok (.aload_n 0, 1) := by decide +kernel
theorem dX9_lays_75 : decode cX9_lays 75 = .ok (.getfield 25, 3) := by decide +kernel
theorem dX9_lays_78 : decode cX9_lays 78 = .ok (.invokestatic 34, 3) := by decide +kernel
theorem dX9_lays_81 : decode cX9_lays 81 = .ok (.return_, 1) := by decide +kernel
set_option maxRecDepth 20000 in
theorem dX9_brings_0 : decode cX9_brings 0 = .ok (.iload_n 1, 1) := by decide +kernel
theorem dX9_brings_1 : decode cX9_brings 1 = .ok (.tableswitch 69 0 2 #[27, 41, 55], 27) := by decide +kernel
theorem dX9_brings_28 : decode cX9_brings 28 = .ok (.aload_n 0, 1) := by decide +kernel
theorem dX9_brings_29 : decode cX9_brings 29 = .ok (.getfield 16, 3) := by decide +kernel
theorem dX9_brings_32 : decode cX9_brings 32 = .ok (.aload_n 0, 1) := by decide +kernel
theorem dX9_brings_33 : decode cX9_brings 33 = .ok (.getfield 7, 3) := by decide +kernel
theorem dX9_brings_36 : decode cX9_brings 36 = .ok (.invokestatic 34, 3) := by decide +kernel
theorem dX9_brings_39 : decode cX9_brings 39 = .ok (.goto 42, 3) := by decide +kernel
theorem dX9_brings_42 : decode cX9_brings 42 = .ok (.aload_n 0, 1) := by decide +kernel
theorem dX9_brings_43 : decode cX9_brings 43 = .ok (.getfield 19, 3) := by decide +kernel
theorem dX9_brings_46 : decode cX9_brings 46 = .ok (.aload_n 0, 1) := by decide +kernel
theorem dX9_brings_47 : decode cX9_brings 47 = .ok (.getfield 7, 3) := by decide +kernel
theorem dX9_brings_50 : decode cX9_brings 50 = .ok (.invokestatic 34, 3) := by decide +kernel
theorem dX9_brings_53 : decode cX9_brings 53 = .ok (.goto 28, 3) := by decide +kernel
theorem dX9_brings_56 : decode cX9_brings 56 = .ok (.aload_n 0, 1) := by decide +kernel
theorem dX9_brings_57 : decode cX9_brings 57 = .ok (.getfield 22, 3) := by decide +kernel
theorem dX9_brings_60 : decode cX9_brings 60 = .ok (.aload_n 0, 1) := by decide +kernel
theorem dX9_brings_61 : decode cX9_brings 61 = .ok (.getfield 7, 3) := by decide +kernel
theorem dX9_brings_64 : decode cX9_brings 64 = .ok (.invokestatic 34, 3) := by decide +kernel
theorem dX9_brings_67 : decode cX9_brings 67 = .ok (.goto 14, 3) := by decide +kernel
theorem dX9_brings_70 : decode cX9_brings 70 = .ok (.aload_n 0, 1) := by decide +kernel
theorem dX9_brings_71 : decode cX9_brings 71 = .ok (.getfield 25, 3) := by decide +kernel
theorem dX9_brings_74 : decode cX9_brings 74 = .ok (.aload_n 0, 1) := by decide +kernel
theorem dX9_brings_75 : decode cX9_brings 75 = .ok (.getfield 7, 3) := by decide +kernel
theorem dX9_brings_78 : decode cX9_brings 78 = .ok (.invokestatic 34, 3) := by decide +kernel
theorem dX9_brings_81 : decode cX9_brings 81 = .ok (.return_, 1) := by decide +kernel
set_option maxRecDepth 20000 in
theorem dX9_records_0 : decode cX9_records 0 = .ok (.aload_n 0, 1) := by decide +kernel
theorem dX9_records_1 : decode cX9_records 1 = .ok (.getfield 38, 3) := by decide +kernel
theorem dX9_records_4 : decode cX9_records 4 = .ok (.iconst 4, 1) := by decide +kernel
theorem dX9_records_5 : decode cX9_records 5 = .ok (.if_icmp .ne 25, 3) := by decide +kernel
theorem dX9_records_8 : decode cX9_records 8 = .ok (.aload_n 0, 1) := by decide +kernel
theorem dX9_records_9 : decode cX9_records 9 = .ok (.aload_n 0, 1) := by decide +kernel
theorem dX9_records_10 : decode cX9_records 10 = .ok (.getfield 42, 3) := by decide +kernel
theorem dX9_records_13 : decode cX9_records 13 = .ok (.iconst 1, 1) := by decide +kernel
theorem dX9_records_14 : decode cX9_records 14 = .ok (.iadd, 1) := by decide +kernel
theorem dX9_records_15 : decode cX9_records 15 = .ok (.iconst 4, 1) := by decide +kernel
theorem dX9_records_16 : decode cX9_records 16 = .ok (.irem, 1) := by decide +kernel
theorem dX9_records_17 : decode cX9_records 17 = .ok (.putfield 42, 3) := by decide +kernel
theorem dX9_records_20 : decode cX9_records 20 = .ok (.aload_n 0, 1) := by decide +kernel
theorem dX9_records_21 : decode cX9_records 21 = .ok (.dup, 1) := by decide +kernel
theorem dX9_records_22 : decode cX9_records 22 = .ok (.getfield 38, 3) := by decide +kernel
theorem dX9_records_25 : decode cX9_records 25 = .ok (.iconst 1, 1) := by decide +kernel
theorem dX9_records_26 : decode cX9_records 26 = .ok (.isub, 1) := by decide +kernel
theorem dX9_records_27 : decode cX9_records 27 = .ok (.putfield 38, 3) := by decide +kernel
theorem dX9_records_30 : decode cX9_records 30 = .ok (.aload_n 0, 1) := by decide +kernel
theorem dX9_records_31 : decode cX9_records 31 = .ok (.aload_n 0, 1) := by decide +kernel
theorem dX9_records_32 : decode cX9_records 32 = .ok (.getfield 42, 3) := by decide +kernel
theorem dX9_records_35 : decode cX9_records 35 = .ok (.aload_n 0, 1) := by decide +kernel
theorem dX9_records_36 : decode cX9_records 36 = .ok (.getfield 38, 3) := by decide +kernel
theorem dX9_records_39 : decode cX9_records 39 = .ok (.iadd, 1) := by decide +kernel
theorem dX9_records_40 : decode cX9_records 40 = .ok (.iconst 4, 1) := by decide +kernel
theorem dX9_records_41 : decode cX9_records 41 = .ok (.irem, 1) := by decide +kernel
theorem dX9_records_42 : decode cX9_records 42 = .ok (.invokevirtual 45, 3) := by decide +kernel
theorem dX9_records_45 : decode cX9_records 45 = .ok (.aload_n 0, 1) := by decide +kernel
theorem dX9_records_46 : decode cX9_records 46 = .ok (.dup, 1) := by decide +kernel
theorem dX9_records_47 : decode cX9_records 47 = .ok (.getfield 38, 3) := by decide +kernel
theorem dX9_records_50 : decode cX9_records 50 = .ok (.iconst 1, 1) := by decide +kernel
theorem dX9_records_51 : decode cX9_records 51 = .ok (.iadd, 1) := by decide +kernel
theorem dX9_records_52 : decode cX9_records 52 = .ok (.putfield 38, 3) := by decide +kernel
theorem dX9_records_55 : decode cX9_records 55 = .ok (.return_, 1) := by decide +kernel
set_option maxRecDepth 20000 in
theorem dX9_isTable_0 : decode cX9_isTable 0 = .ok (.iload_n 1, 1) := by decide +kernel
theorem dX9_isTable_1 : decode cX9_isTable 1 = .ok (.iconst 0, 1) := by decide +kernel
theorem dX9_isTable_2 : decode cX9_isTable 2 = .ok (.aload_n 0, 1) := by decide +kernel
theorem dX9_isTable_3 : decode cX9_isTable 3 = .ok (.getfield 7, 3) := by decide +kernel
theorem dX9_isTable_6 : decode cX9_isTable 6 = .ok (.sipush 138, 3) := by decide +kernel
theorem dX9_isTable_9 : decode cX9_isTable 9 = .ok (.iaload, 1) := by decide +kernel
theorem dX9_isTable_10 : decode cX9_isTable 10 = .ok (.iconst 1, 1) := by decide +kernel
theorem dX9_isTable_11 : decode cX9_isTable 11 = .ok (.isub, 1) := by decide +kernel
theorem dX9_isTable_12 : decode cX9_isTable 12 = .ok (.invokestatic 49, 3) := by decide +kernel
theorem dX9_isTable_15 : decode cX9_isTable 15 = .ok (.ireturn, 1) := by decide +kernel
set_option maxRecDepth 20000 in
theorem dX9_isThing_0 : decode cX9_isThing 0 = .ok (.iload_n 0, 1) := by decide +kernel
theorem dX9_isThing_1 : decode cX9_isThing 1 = .ok (.iconst 0, 1) := by decide +kernel
theorem dX9_isThing_2 : decode cX9_isThing 2 = .ok (.sipush 999, 3) := by decide +kernel
theorem dX9_isThing_5 : decode cX9_isThing 5 = .ok (.invokestatic 49, 3) := by decide +kernel
theorem dX9_isThing_8 : decode cX9_isThing 8 = .ok (.ireturn, 1) := by decide +kernel
theorem dX9_hashOf_0 : decode cX9_hashOf 0 = .ok (.iload_n 0, 1) := by decide +kernel
theorem dX9_hashOf_1 : decode cX9_hashOf 1 = .ok (.ldc 53, 2) := by decide +kernel
theorem dX9_hashOf_3 : decode cX9_hashOf 3 = .ok (.imul, 1) := by decide +kernel
theorem dX9_hashOf_4 : decode cX9_hashOf 4 = .ok (.iload_n 1, 1) := by decide +kernel
theorem dX9_hashOf_5 : decode cX9_hashOf 5 = .ok (.sipush 9973, 3) := by decide +kernel
theorem dX9_hashOf_8 : decode cX9_hashOf 8 = .ok (.imul, 1) := by decide +kernel
theorem dX9_hashOf_9 : decode cX9_hashOf 9 = .ok (.iadd, 1) := by decide +kernel
theorem dX9_hashOf_10 : decode cX9_hashOf 10 = .ok (.sipush 7919, 3) := by decide +kernel
theorem dX9_hashOf_13 : decode cX9_hashOf 13 = .ok (.iadd, 1) := by decide +kernel
theorem dX9_hashOf_14 : decode cX9_hashOf 14 = .ok (.ldc 54, 2) := by decide +kernel
theorem dX9_hashOf_16 : decode cX9_hashOf 16 = .ok (.irem, 1) := by decide +kernel
theorem dX9_hashOf_17 : decode cX9_hashOf 17 = .ok (.istore_n 2, 1) := by decide +kernel
theorem dX9_hashOf_18 : decode cX9_hashOf 18 = .ok (.iload_n 2, 1) := by decide +kernel
theorem dX9_hashOf_19 : decode cX9_hashOf 19 = .ok (.iload_n 2, 1) := by decide +kernel
theorem dX9_hashOf_20 : decode cX9_hashOf 20 = .ok (.sipush 128, 3) := by decide +kernel
theorem dX9_hashOf_23 : decode cX9_hashOf 23 = .ok (.idiv, 1) := by decide +kernel
theorem dX9_hashOf_24 : decode cX9_hashOf 24 = .ok (.ixor, 1) := by decide +kernel
theorem dX9_hashOf_25 : decode cX9_hashOf 25 = .ok (.sipush 25173, 3) := by decide +kernel
theorem dX9_hashOf_28 : decode cX9_hashOf 28 = .ok (.imul, 1) := by decide +kernel
theorem dX9_hashOf_29 : decode cX9_hashOf 29 = .ok (.ldc 54, 2) := by decide +kernel
theorem dX9_hashOf_31 : decode cX9_hashOf 31 = .ok (.irem, 1) := by decide +kernel
theorem dX9_hashOf_32 : decode cX9_hashOf 32 = .ok (.istore_n 2, 1) := by decide +kernel
theorem dX9_hashOf_33 : decode cX9_hashOf 33 = .ok (.iload_n 2, 1) := by decide +kernel
theorem dX9_hashOf_34 : decode cX9_hashOf 34 = .ok (.iload_n 2, 1) := by decide +kernel
theorem dX9_hashOf_35 : decode cX9_hashOf 35 = .ok (.sipush 256, 3) := by decide +kernel
theorem dX9_hashOf_38 : decode cX9_hashOf 38 = .ok (.idiv, 1) := by decide +kernel
theorem dX9_hashOf_39 : decode cX9_hashOf 39 = .ok (.ixor, 1) := by decide +kernel
theorem dX9_hashOf_40 : decode cX9_hashOf 40 = .ok (.ireturn, 1) := by decide +kernel
theorem dX9_rank_0 : decode cX9_rank 0 = .ok (.iload_n 0, 1) := by decide +kernel
theorem dX9_rank_1 : decode cX9_rank 1 = .ok (.ifCond .ne 6, 3) := by decide +kernel
theorem dX9_rank_4 : decode cX9_rank 4 = .ok (.bipush 14, 2) := by decide +kernel
theorem dX9_rank_6 : decode cX9_rank 6 = .ok (.ireturn, 1) := by decide +kernel
theorem dX9_rank_7 : decode cX9_rank 7 = .ok (.iconst 1, 1) := by decide +kernel
theorem dX9_rank_8 : decode cX9_rank 8 = .ok (.istore_n 1, 1) := by decide +kernel
theorem dX9_rank_9 : decode cX9_rank 9 = .ok (.iload_n 0, 1) := by decide +kernel
theorem dX9_rank_10 : decode cX9_rank 10 = .ok (.istore_n 2, 1) := by decide +kernel
theorem dX9_rank_11 : decode cX9_rank 11 = .ok (.iload_n 2, 1) := by decide +kernel
theorem dX9_rank_12 : decode cX9_rank 12 = .ok (.iconst 2, 1) := by decide +kernel
theorem dX9_rank_13 : decode cX9_rank 13 = .ok (.irem, 1) := by decide +kernel
theorem dX9_rank_14 : decode cX9_rank 14 = .ok (.ifCond .ne 13, 3) := by decide +kernel
theorem dX9_rank_17 : decode cX9_rank 17 = .ok (.iload_n 2, 1) := by decide +kernel
theorem dX9_rank_18 : decode cX9_rank 18 = .ok (.iconst 2, 1) := by decide +kernel
theorem dX9_rank_19 : decode cX9_rank 19 = .ok (.idiv, 1) := by decide +kernel
theorem dX9_rank_20 : decode cX9_rank 20 = .ok (.istore_n 2, 1) := by decide +kernel
theorem dX9_rank_21 : decode cX9_rank 21 = .ok (.iinc 1 1, 3) := by decide +kernel
theorem dX9_rank_24 : decode cX9_rank 24 = .ok (.goto (-13), 3) := by decide +kernel
theorem dX9_rank_27 : decode cX9_rank 27 = .ok (.iload_n 1, 1) := by decide +kernel
theorem dX9_rank_28 : decode cX9_rank 28 = .ok (.ireturn, 1) := by decide +kernel
theorem dX9_keepHash_0 : decode cX9_keepHash 0 = .ok (.iconst 0, 1) := by decide +kernel
theorem dX9_keepHash_1 : decode cX9_keepHash 1 = .ok (.istore_n 3, 1) := by decide +kernel
theorem dX9_keepHash_2 : decode cX9_keepHash 2 = .ok (.iload_n 3, 1) := by decide +kernel
theorem dX9_keepHash_3 : decode cX9_keepHash 3 = .ok (.aload_n 0, 1) := by decide +kernel
theorem dX9_keepHash_4 : decode cX9_keepHash 4 = .ok (.iload_n 1, 1) := by decide +kernel
theorem dX9_keepHash_5 : decode cX9_keepHash 5 = .ok (.iconst 5, 1) := by decide +kernel
theorem dX9_keepHash_6 : decode cX9_keepHash 6 = .ok (.iadd, 1) := by decide +kernel
theorem dX9_keepHash_7 : decode cX9_keepHash 7 = .ok (.iaload, 1) := by decide +kernel
theorem dX9_keepHash_8 : decode cX9_keepHash 8 = .ok (.if_icmp .ge 21, 3) := by decide +kernel
theorem dX9_keepHash_11 : decode cX9_keepHash 11 = .ok (.aload_n 0, 1) := by decide +kernel
theorem dX9_keepHash_12 : decode cX9_keepHash 12 = .ok (.iload_n 1, 1) := by decide +kernel
theorem dX9_keepHash_13 : decode cX9_keepHash 13 = .ok (.bipush 6, 2) := by decide +kernel
theorem dX9_keepHash_15 : decode cX9_keepHash 15 = .ok (.iadd, 1) := by decide +kernel
theorem dX9_keepHash_16 : decode cX9_keepHash 16 = .ok (.iload_n 3, 1) := by decide +kernel
theorem dX9_keepHash_17 : decode cX9_keepHash 17 = .ok (.iadd, 1) := by decide +kernel
theorem dX9_keepHash_18 : decode cX9_keepHash 18 = .ok (.iaload, 1) := by decide +kernel
theorem dX9_keepHash_19 : decode cX9_keepHash 19 = .ok (.iload_n 2, 1) := by decide +kernel
theorem dX9_keepHash_20 : decode cX9_keepHash 20 = .ok (.if_icmp .ge 9, 3) := by decide +kernel
theorem dX9_keepHash_23 : decode cX9_keepHash 23 = .ok (.iinc 3 1, 3) := by decide +kernel
theorem dX9_keepHash_26 : decode cX9_keepHash 26 = .ok (.goto (-24), 3) := by decide +kernel
theorem dX9_keepHash_29 : decode cX9_keepHash 29 = .ok (.iload_n 3, 1) := by decide +kernel
theorem dX9_keepHash_30 : decode cX9_keepHash 30 = .ok (.aload_n 0, 1) := by decide +kernel
theorem dX9_keepHash_31 : decode cX9_keepHash 31 = .ok (.iload_n 1, 1) := by decide +kernel
theorem dX9_keepHash_32 : decode cX9_keepHash 32 = .ok (.iconst 5, 1) := by decide +kernel
theorem dX9_keepHash_33 : decode cX9_keepHash 33 = .ok (.iadd, 1) := by decide +kernel
theorem dX9_keepHash_34 : decode cX9_keepHash 34 = .ok (.iaload, 1) := by decide +kernel
theorem dX9_keepHash_35 : decode cX9_keepHash 35 = .ok (.if_icmp .ge 19, 3) := by decide +kernel
theorem dX9_keepHash_38 : decode cX9_keepHash 38 = .ok (.aload_n 0, 1) := by decide +kernel
theorem dX9_keepHash_39 : decode cX9_keepHash 39 = .ok (.iload_n 1, 1) := by decide +kernel
theorem dX9_keepHash_40 : decode cX9_keepHash 40 = .ok (.bipush 6, 2) := by decide +kernel
theorem dX9_keepHash_42 : decode cX9_keepHash 42 = .ok (.iadd, 1) := by decide +kernel
theorem dX9_keepHash_43 : decode cX9_keepHash 43 = .ok (.iload_n 3, 1) := by decide +kernel
theorem dX9_keepHash_44 : decode cX9_keepHash 44 = .ok (.iadd, 1) := by decide +kernel
theorem dX9_keepHash_45 : decode cX9_keepHash 45 = .ok (.iaload, 1) := by decide +kernel
theorem dX9_keepHash_46 : decode cX9_keepHash 46 = .ok (.iload_n 2, 1) := by decide +kernel
theorem dX9_keepHash_47 : decode cX9_keepHash 47 = .ok (.if_icmp .ne 7, 3) := by decide +kernel
theorem dX9_keepHash_50 : decode cX9_keepHash 50 = .ok (.iconst 1, 1) := by decide +kernel
theorem dX9_keepHash_51 : decode cX9_keepHash 51 = .ok (.goto 4, 3) := by decide +kernel
theorem dX9_keepHash_54 : decode cX9_keepHash 54 = .ok (.iconst 0, 1) := by decide +kernel
theorem dX9_keepHash_55 : decode cX9_keepHash 55 = .ok (.istore 4, 2) := by decide +kernel
theorem dX9_keepHash_57 : decode cX9_keepHash 57 = .ok (.iload 4, 2) := by decide +kernel
theorem dX9_keepHash_59 : decode cX9_keepHash 59 = .ok (.ifCond .ne 9, 3) := by decide +kernel
theorem dX9_keepHash_62 : decode cX9_keepHash 62 = .ok (.iload_n 3, 1) := by decide +kernel
theorem dX9_keepHash_63 : decode cX9_keepHash 63 = .ok (.bipush 8, 2) := by decide +kernel
theorem dX9_keepHash_65 : decode cX9_keepHash 65 = .ok (.if_icmp .ne 4, 3) := by decide +kernel
theorem dX9_keepHash_68 : decode cX9_keepHash 68 = .ok (.return_, 1) := by decide +kernel
theorem dX9_keepHash_69 : decode cX9_keepHash 69 = .ok (.aload_n 0, 1) := by decide +kernel
theorem dX9_keepHash_70 : decode cX9_keepHash 70 = .ok (.iload_n 1, 1) := by decide +kernel
theorem dX9_keepHash_71 : decode cX9_keepHash 71 = .ok (.iconst 5, 1) := by decide +kernel
theorem dX9_keepHash_72 : decode cX9_keepHash 72 = .ok (.iadd, 1) := by decide +kernel
theorem dX9_keepHash_73 : decode cX9_keepHash 73 = .ok (.iaload, 1) := by decide +kernel
theorem dX9_keepHash_74 : decode cX9_keepHash 74 = .ok (.bipush 8, 2) := by decide +kernel
theorem dX9_keepHash_76 : decode cX9_keepHash 76 = .ok (.if_icmp .ge 11, 3) := by decide +kernel
theorem dX9_keepHash_79 : decode cX9_keepHash 79 = .ok (.aload_n 0, 1) := by decide +kernel
theorem dX9_keepHash_80 : decode cX9_keepHash 80 = .ok (.iload_n 1, 1) := by decide +kernel
theorem dX9_keepHash_81 : decode cX9_keepHash 81 = .ok (.iconst 5, 1) := by decide +kernel
theorem dX9_keepHash_82 : decode cX9_keepHash 82 = .ok (.iadd, 1) := by decide +kernel
theorem dX9_keepHash_83 : decode cX9_keepHash 83 = .ok (.iaload, 1) := by decide +kernel
theorem dX9_keepHash_84 : decode cX9_keepHash 84 = .ok (.goto 5, 3) := by decide +kernel
theorem dX9_keepHash_87 : decode cX9_keepHash 87 = .ok (.bipush 7, 2) := by decide +kernel
theorem dX9_keepHash_89 : decode cX9_keepHash 89 = .ok (.istore 5, 2) := by decide +kernel
theorem dX9_keepHash_91 : decode cX9_keepHash 91 = .ok (.iload 5, 2) := by decide +kernel
theorem dX9_keepHash_93 : decode cX9_keepHash 93 = .ok (.istore 6, 2) := by decide +kernel
theorem dX9_keepHash_95 : decode cX9_keepHash 95 = .ok (.iload 6, 2) := by decide +kernel
theorem dX9_keepHash_97 : decode cX9_keepHash 97 = .ok (.iload_n 3, 1) := by decide +kernel
theorem dX9_keepHash_98 : decode cX9_keepHash 98 = .ok (.if_icmp .le 29, 3) := by decide +kernel
theorem dX9_keepHash_101 : decode cX9_keepHash 101 = .ok (.aload_n 0, 1) := by decide +kernel
theorem dX9_keepHash_102 : decode cX9_keepHash 102 = .ok (.iload_n 1, 1) := by decide +kernel
theorem dX9_keepHash_103 : decode cX9_keepHash 103 = .ok (.bipush 6, 2) := by decide +kernel
theorem dX9_keepHash_105 : decode cX9_keepHash 105 = .ok (.iadd, 1) := by decide +kernel
theorem dX9_keepHash_106 : decode cX9_keepHash 106 = .ok (.iload 6, 2) := by decide +kernel
theorem dX9_keepHash_108 : decode cX9_keepHash 108 = .ok (.iadd, 1) := by decide +kernel
theorem dX9_keepHash_109 : decode cX9_keepHash 109 = .ok (.aload_n 0, 1) := by decide +kernel
theorem dX9_keepHash_110 : decode cX9_keepHash 110 = .ok (.iload_n 1, 1) := by decide +kernel
theorem dX9_keepHash_111 : decode cX9_keepHash 111 = .ok (.bipush 6, 2) := by decide +kernel
theorem dX9_keepHash_113 : decode cX9_keepHash 113 = .ok (.iadd, 1) := by decide +kernel
theorem dX9_keepHash_114 : decode cX9_keepHash 114 = .ok (.iload 6, 2) := by decide +kernel
theorem dX9_keepHash_116 : decode cX9_keepHash 116 = .ok (.iadd, 1) := by decide +kernel
theorem dX9_keepHash_117 : decode cX9_keepHash 117 = .ok (.iconst 1, 1) := by decide +kernel
theorem dX9_keepHash_118 : decode cX9_keepHash 118 = .ok (.isub, 1) := by decide +kernel
theorem dX9_keepHash_119 : decode cX9_keepHash 119 = .ok (.iaload, 1) := by decide +kernel
theorem dX9_keepHash_120 : decode cX9_keepHash 120 = .ok (.iastore, 1) := by decide +kernel
theorem dX9_keepHash_121 : decode cX9_keepHash 121 = .ok (.iinc 6 (-1), 3) := by decide +kernel
theorem dX9_keepHash_124 : decode cX9_keepHash 124 = .ok (.goto (-29), 3) := by decide +kernel
theorem dX9_keepHash_127 : decode cX9_keepHash 127 = .ok (.aload_n 0, 1) := by decide +kernel
theorem dX9_keepHash_128 : decode cX9_keepHash 128 = .ok (.iload_n 1, 1) := by decide +kernel
theorem dX9_keepHash_129 : decode cX9_keepHash 129 = .ok (.bipush 6, 2) := by decide +kernel
theorem dX9_keepHash_131 : decode cX9_keepHash 131 = .ok (.iadd, 1) := by decide +kernel
theorem dX9_keepHash_132 : decode cX9_keepHash 132 = .ok (.iload_n 3, 1) := by decide +kernel
theorem dX9_keepHash_133 : decode cX9_keepHash 133 = .ok (.iadd, 1) := by decide +kernel
theorem dX9_keepHash_134 : decode cX9_keepHash 134 = .ok (.iload_n 2, 1) := by decide +kernel
theorem dX9_keepHash_135 : decode cX9_keepHash 135 = .ok (.iastore, 1) := by decide +kernel
theorem dX9_keepHash_136 : decode cX9_keepHash 136 = .ok (.aload_n 0, 1) := by decide +kernel
theorem dX9_keepHash_137 : decode cX9_keepHash 137 = .ok (.iload_n 1, 1) := by decide +kernel
theorem dX9_keepHash_138 : decode cX9_keepHash 138 = .ok (.iconst 5, 1) := by decide +kernel
theorem dX9_keepHash_139 : decode cX9_keepHash 139 = .ok (.iadd, 1) := by decide +kernel
theorem dX9_keepHash_140 : decode cX9_keepHash 140 = .ok (.iload 5, 2) := by decide +kernel
theorem dX9_keepHash_142 : decode cX9_keepHash 142 = .ok (.iconst 1, 1) := by decide +kernel
theorem dX9_keepHash_143 : decode cX9_keepHash 143 = .ok (.iadd, 1) := by decide +kernel
theorem dX9_keepHash_144 : decode cX9_keepHash 144 = .ok (.iastore, 1) := by decide +kernel
theorem dX9_keepHash_145 : decode cX9_keepHash 145 = .ok (.return_, 1) := by decide +kernel
theorem dX9_keepRegister_0 : decode cX9_keepRegister 0 = .ok (.aload_n 0, 1) := by decide +kernel
theorem dX9_keepRegister_1 : decode cX9_keepRegister 1 = .ok (.iload_n 1, 1) := by decide +kernel
theorem dX9_keepRegister_2 : decode cX9_keepRegister 2 = .ok (.bipush 14, 2) := by decide +kernel
theorem dX9_keepRegister_4 : decode cX9_keepRegister 4 = .ok (.iadd, 1) := by decide +kernel
theorem dX9_keepRegister_5 : decode cX9_keepRegister 5 = .ok (.iload_n 2, 1) := by decide +kernel
theorem dX9_keepRegister_6 : decode cX9_keepRegister 6 = .ok (.iadd, 1) := by decide +kernel
theorem dX9_keepRegister_7 : decode cX9_keepRegister 7 = .ok (.iaload, 1) := by decide +kernel
theorem dX9_keepRegister_8 : decode cX9_keepRegister 8 = .ok (.istore 4, 2) := by decide +kernel
theorem dX9_keepRegister_10 : decode cX9_keepRegister 10 = .ok (.aload_n 0, 1) := by decide +kernel
theorem dX9_keepRegister_11 : decode cX9_keepRegister 11 = .ok (.iload_n 1, 1) := by decide +kernel
theorem dX9_keepRegister_12 : decode cX9_keepRegister 12 = .ok (.bipush 14, 2) := by decide +kernel
theorem dX9_keepRegister_14 : decode cX9_keepRegister 14 = .ok (.iadd, 1) := by decide +kernel
theorem dX9_keepRegister_15 : decode cX9_keepRegister 15 = .ok (.iload_n 2, 1) := by decide +kernel
theorem dX9_keepRegister_16 : decode cX9_keepRegister 16 = .ok (.iadd, 1) := by decide +kernel
theorem dX9_keepRegister_17 : decode cX9_keepRegister 17 = .ok (.iload_n 3, 1) := by decide +kernel
theorem dX9_keepRegister_18 : decode cX9_keepRegister 18 = .ok (.iload 4, 2) := by decide +kernel
theorem dX9_keepRegister_20 : decode cX9_keepRegister 20 = .ok (.if_icmp .le 7, 3) := by decide +kernel
theorem dX9_keepRegister_23 : decode cX9_keepRegister 23 = .ok (.iload_n 3, 1) := by decide +kernel
theorem dX9_keepRegister_24 : decode cX9_keepRegister 24 = .ok (.goto 5, 3) := by decide +kernel
theorem dX9_keepRegister_27 : decode cX9_keepRegister 27 = .ok (.iload 4, 2) := by decide +kernel
theorem dX9_keepRegister_29 : decode cX9_keepRegister 29 = .ok (.iastore, 1) := by decide +kernel
theorem dX9_keepRegister_30 : decode cX9_keepRegister 30 = .ok (.return_, 1) := by decide +kernel
set_option maxRecDepth 20000 in
theorem dX9_keeps_0 : decode cX9_keeps 0 = .ok (.aload_n 0, 1) := by decide +kernel
theorem dX9_keeps_1 : decode cX9_keeps 1 = .ok (.iload_n 1, 1) := by decide +kernel
theorem dX9_keeps_2 : decode cX9_keeps 2 = .ok (.iconst 0, 1) := by decide +kernel
theorem dX9_keeps_3 : decode cX9_keeps 3 = .ok (.iadd, 1) := by decide +kernel
theorem dX9_keeps_4 : decode cX9_keeps 4 = .ok (.iaload, 1) := by decide +kernel
theorem dX9_keeps_5 : decode cX9_keeps 5 = .ok (.lookupswitch 54 #[(0, 27), (1, 45)], 27) := by decide +kernel
theorem dX9_keeps_32 : decode cX9_keeps 32 = .ok (.aload_n 0, 1) := by decide +kernel
theorem dX9_keeps_33 : decode cX9_keeps 33 = .ok (.iload_n 1, 1) := by decide +kernel
theorem dX9_keeps_34 : decode cX9_keeps 34 = .ok (.iconst 4, 1) := by decide +kernel
theorem dX9_keeps_35 : decode cX9_keeps 35 = .ok (.iadd, 1) := by decide +kernel
theorem dX9_keeps_36 : decode cX9_keeps 36 = .ok (.dup2, 1) := by decide +kernel
theorem dX9_keeps_37 : decode cX9_keeps 37 = .ok (.iaload, 1) := by decide +kernel
theorem dX9_keeps_38 : decode cX9_keeps 38 = .ok (.iconst 1, 1) := by decide +kernel
theorem dX9_keeps_39 : decode cX9_keeps 39 = .ok (.iload_n 2, 1) := by decide +kernel
theorem dX9_keeps_40 : decode cX9_keeps 40 = .ok (.sipush 2048, 3) := by decide +kernel
theorem dX9_keeps_43 : decode cX9_keeps 43 = .ok (.idiv, 1) := by decide +kernel
theorem dX9_keeps_44 : decode cX9_keeps 44 = .ok (.ishl, 1) := by decide +kernel
theorem dX9_keeps_45 : decode cX9_keeps 45 = .ok (.ior, 1) := by decide +kernel
theorem dX9_keeps_46 : decode cX9_keeps 46 = .ok (.iastore, 1) := by decide +kernel
theorem dX9_keeps_47 : decode cX9_keeps 47 = .ok (.goto 28, 3) := by decide +kernel
theorem dX9_keeps_50 : decode cX9_keeps 50 = .ok (.aload_n 0, 1) := by decide +kernel
theorem dX9_keeps_51 : decode cX9_keeps 51 = .ok (.iload_n 1, 1) := by decide +kernel
theorem dX9_keeps_52 : decode cX9_keeps 52 = .ok (.iload_n 2, 1) := by decide +kernel
theorem dX9_keeps_53 : decode cX9_keeps 53 = .ok (.invokestatic 55, 3) := by decide +kernel
theorem dX9_keeps_56 : decode cX9_keeps 56 = .ok (.goto 19, 3) := by decide +kernel
theorem dX9_keeps_59 : decode cX9_keeps 59 = .ok (.aload_n 0, 1) := by decide +kernel
theorem dX9_keeps_60 : decode cX9_keeps 60 = .ok (.iload_n 1, 1) := by decide +kernel
theorem dX9_keeps_61 : decode cX9_keeps 61 = .ok (.iload_n 2, 1) := by decide +kernel
theorem dX9_keeps_62 : decode cX9_keeps 62 = .ok (.bipush 8, 2) := by decide +kernel
theorem dX9_keeps_64 : decode cX9_keeps 64 = .ok (.irem, 1) := by decide +kernel
theorem dX9_keeps_65 : decode cX9_keeps 65 = .ok (.iload_n 2, 1) := by decide +kernel
theorem dX9_keeps_66 : decode cX9_keeps 66 = .ok (.bipush 8, 2) := by decide +kernel
theorem dX9_keeps_68 : decode cX9_keeps 68 = .ok (.idiv, 1) := by decide +kernel
theorem dX9_keeps_69 : decode cX9_keeps 69 = .ok (.invokestatic 59, 3) := by decide +kernel
theorem dX9_keeps_72 : decode cX9_keeps 72 = .ok (.invokestatic 63, 3) := by decide +kernel
theorem dX9_keeps_75 : decode cX9_keeps 75 = .ok (.return_, 1) := by decide +kernel
theorem dX9_lit_0 : decode cX9_lit 0 = .ok (.iconst 0, 1) := by decide +kernel
theorem dX9_lit_1 : decode cX9_lit 1 = .ok (.istore_n 1, 1) := by decide +kernel
theorem dX9_lit_2 : decode cX9_lit 2 = .ok (.iconst 0, 1) := by decide +kernel
theorem dX9_lit_3 : decode cX9_lit 3 = .ok (.istore_n 2, 1) := by decide +kernel
theorem dX9_lit_4 : decode cX9_lit 4 = .ok (.iload_n 2, 1) := by decide +kernel
theorem dX9_lit_5 : decode cX9_lit 5 = .ok (.bipush 32, 2) := by decide +kernel
theorem dX9_lit_7 : decode cX9_lit 7 = .ok (.if_icmp .ge 17, 3) := by decide +kernel
theorem dX9_lit_10 : decode cX9_lit 10 = .ok (.iload_n 1, 1) := by decide +kernel
theorem dX9_lit_11 : decode cX9_lit 11 = .ok (.iload_n 0, 1) := by decide +kernel
theorem dX9_lit_12 : decode cX9_lit 12 = .ok (.iload_n 2, 1) := by decide +kernel
theorem dX9_lit_13 : decode cX9_lit 13 = .ok (.ishr, 1) := by decide +kernel
theorem dX9_lit_14 : decode cX9_lit 14 = .ok (.iconst 1, 1) := by decide +kernel
theorem dX9_lit_15 : decode cX9_lit 15 = .ok (.iand, 1) := by decide +kernel
theorem dX9_lit_16 : decode cX9_lit 16 = .ok (.iadd, 1) := by decide +kernel
theorem dX9_lit_17 : decode cX9_lit 17 = .ok (.istore_n 1, 1) := by decide +kernel
theorem dX9_lit_18 : decode cX9_lit 18 = .ok (.iinc 2 1, 3) := by decide +kernel
theorem dX9_lit_21 : decode cX9_lit 21 = .ok (.goto (-17), 3) := by decide +kernel
theorem dX9_lit_24 : decode cX9_lit 24 = .ok (.iload_n 1, 1) := by decide +kernel
theorem dX9_lit_25 : decode cX9_lit 25 = .ok (.ireturn, 1) := by decide +kernel
theorem dX9_filled_0 : decode cX9_filled 0 = .ok (.iconst 0, 1) := by decide +kernel
theorem dX9_filled_1 : decode cX9_filled 1 = .ok (.istore_n 2, 1) := by decide +kernel
theorem dX9_filled_2 : decode cX9_filled 2 = .ok (.iconst 0, 1) := by decide +kernel
theorem dX9_filled_3 : decode cX9_filled 3 = .ok (.istore_n 3, 1) := by decide +kernel
theorem dX9_filled_4 : decode cX9_filled 4 = .ok (.iload_n 3, 1) := by decide +kernel
theorem dX9_filled_5 : decode cX9_filled 5 = .ok (.bipush 8, 2) := by decide +kernel
theorem dX9_filled_7 : decode cX9_filled 7 = .ok (.if_icmp .ge 28, 3) := by decide +kernel
theorem dX9_filled_10 : decode cX9_filled 10 = .ok (.iload_n 2, 1) := by decide +kernel
theorem dX9_filled_11 : decode cX9_filled 11 = .ok (.aload_n 0, 1) := by decide +kernel
theorem dX9_filled_12 : decode cX9_filled 12 = .ok (.iload_n 1, 1) := by decide +kernel
theorem dX9_filled_13 : decode cX9_filled 13 = .ok (.bipush 14, 2) := by decide +kernel
theorem dX9_filled_15 : decode cX9_filled 15 = .ok (.iadd, 1) := by decide +kernel
theorem dX9_filled_16 : decode cX9_filled 16 = .ok (.iload_n 3, 1) := by decide +kernel
theorem dX9_filled_17 : decode cX9_filled 17 = .ok (.iadd, 1) := by decide +kernel
theorem dX9_filled_18 : decode cX9_filled 18 = .ok (.iaload, 1) := by decide +kernel
theorem dX9_filled_19 : decode cX9_filled 19 = .ok (.ifCond .le 7, 3) := by decide +kernel
theorem dX9_filled_22 : decode cX9_filled 22 = .ok (.iconst 1, 1) := by decide +kernel
theorem dX9_filled_23 : decode cX9_filled 23 = .ok (.goto 4, 3) := by decide +kernel
theorem dX9_filled_26 : decode cX9_filled 26 = .ok (.iconst 0, 1) := by decide +kernel
theorem dX9_filled_27 : decode cX9_filled 27 = .ok (.iadd, 1) := by decide +kernel
theorem dX9_filled_28 : decode cX9_filled 28 = .ok (.istore_n 2, 1) := by decide +kernel
theorem dX9_filled_29 : decode cX9_filled 29 = .ok (.iinc 3 1, 3) := by decide +kernel
theorem dX9_filled_32 : decode cX9_filled 32 = .ok (.goto (-28), 3) := by decide +kernel
theorem dX9_filled_35 : decode cX9_filled 35 = .ok (.iload_n 2, 1) := by decide +kernel
theorem dX9_filled_36 : decode cX9_filled 36 = .ok (.ireturn, 1) := by decide +kernel
set_option maxRecDepth 20000 in
theorem dX9_low_0 : decode cX9_low 0 = .ok (.aload_n 0, 1) := by decide +kernel
theorem dX9_low_1 : decode cX9_low 1 = .ok (.iload_n 1, 1) := by decide +kernel
theorem dX9_low_2 : decode cX9_low 2 = .ok (.iconst 0, 1) := by decide +kernel
theorem dX9_low_3 : decode cX9_low 3 = .ok (.iadd, 1) := by decide +kernel
theorem dX9_low_4 : decode cX9_low 4 = .ok (.iaload, 1) := by decide +kernel
theorem dX9_low_5 : decode cX9_low 5 = .ok (.istore_n 2, 1) := by decide +kernel
theorem dX9_low_6 : decode cX9_low 6 = .ok (.iload_n 2, 1) := by decide +kernel
theorem dX9_low_7 : decode cX9_low 7 = .ok (.ifCond .ne 14, 3) := by decide +kernel
theorem dX9_low_10 : decode cX9_low 10 = .ok (.aload_n 0, 1) := by decide +kernel
theorem dX9_low_11 : decode cX9_low 11 = .ok (.iload_n 1, 1) := by decide +kernel
theorem dX9_low_12 : decode cX9_low 12 = .ok (.iconst 4, 1) := by decide +kernel
theorem dX9_low_13 : decode cX9_low 13 = .ok (.iadd, 1) := by decide +kernel
theorem dX9_low_14 : decode cX9_low 14 = .ok (.iaload, 1) := by decide +kernel
theorem dX9_low_15 : decode cX9_low 15 = .ok (.invokestatic 67, 3) := by decide +kernel
theorem dX9_low_18 : decode cX9_low 18 = .ok (.goto 21, 3) := by decide +kernel
theorem dX9_low_21 : decode cX9_low 21 = .ok (.iload_n 2, 1) := by decide +kernel
theorem dX9_low_22 : decode cX9_low 22 = .ok (.iconst 1, 1) := by decide +kernel
theorem dX9_low_23 : decode cX9_low 23 = .ok (.if_icmp .ne 11, 3) := by decide +kernel
theorem dX9_low_26 : decode cX9_low 26 = .ok (.aload_n 0, 1) := by decide +kernel
theorem dX9_low_27 : decode cX9_low 27 = .ok (.iload_n 1, 1) := by decide +kernel
theorem dX9_low_28 : decode cX9_low 28 = .ok (.iconst 5, 1) := by decide +kernel
theorem dX9_low_29 : decode cX9_low 29 = .ok (.iadd, 1) := by decide +kernel
theorem dX9_low_30 : decode cX9_low 30 = .ok (.iaload, 1) := by decide +kernel
theorem dX9_low_31 : decode cX9_low 31 = .ok (.goto 8, 3) := by decide +kernel
theorem dX9_low_34 : decode cX9_low 34 = .ok (.aload_n 0, 1) := by decide +kernel
theorem dX9_low_35 : decode cX9_low 35 = .ok (.iload_n 1, 1) := by decide +kernel
theorem dX9_low_36 : decode cX9_low 36 = .ok (.invokestatic 70, 3) := by decide +kernel
theorem dX9_low_39 : decode cX9_low 39 = .ok (.ireturn, 1) := by decide +kernel
theorem dX9_harmonic_0 : decode cX9_harmonic 0 = .ok (.iconst 0, 1) := by decide +kernel
theorem dX9_harmonic_1 : decode cX9_harmonic 1 = .ok (.istore_n 2, 1) := by decide +kernel
theorem dX9_harmonic_2 : decode cX9_harmonic 2 = .ok (.iload_n 0, 1) := by decide +kernel
theorem dX9_harmonic_3 : decode cX9_harmonic 3 = .ok (.iconst 1, 1) := by decide +kernel
theorem dX9_harmonic_4 : decode cX9_harmonic 4 = .ok (.iadd, 1) := by decide +kernel
theorem dX9_harmonic_5 : decode cX9_harmonic 5 = .ok (.istore_n 3, 1) := by decide +kernel
theorem dX9_harmonic_6 : decode cX9_harmonic 6 = .ok (.iload_n 3, 1) := by decide +kernel
theorem dX9_harmonic_7 : decode cX9_harmonic 7 = .ok (.iload_n 1, 1) := by decide +kernel
theorem dX9_harmonic_8 : decode cX9_harmonic 8 = .ok (.if_icmp .gt 19, 3) := by decide +kernel
theorem dX9_harmonic_11 : decode cX9_harmonic 11 = .ok (.iload_n 2, 1) := by decide +kernel
theorem dX9_harmonic_12 : decode cX9_harmonic 12 = .ok (.sipush 1000, 3) := by decide +kernel
theorem dX9_harmonic_15 : decode cX9_harmonic 15 = .ok (.iload_n 1, 1) := by decide +kernel
theorem dX9_harmonic_16 : decode cX9_harmonic 16 = .ok (.imul, 1) := by decide +kernel
theorem dX9_harmonic_17 : decode cX9_harmonic 17 = .ok (.iload_n 3, 1) := by decide +kernel
theorem dX9_harmonic_18 : decode cX9_harmonic 18 = .ok (.idiv, 1) := by decide +kernel
theorem dX9_harmonic_19 : decode cX9_harmonic 19 = .ok (.iadd, 1) := by decide +kernel
theorem dX9_harmonic_20 : decode cX9_harmonic 20 = .ok (.istore_n 2, 1) := by decide +kernel
theorem dX9_harmonic_21 : decode cX9_harmonic 21 = .ok (.iinc 3 1, 3) := by decide +kernel
theorem dX9_harmonic_24 : decode cX9_harmonic 24 = .ok (.goto (-18), 3) := by decide +kernel
theorem dX9_harmonic_27 : decode cX9_harmonic 27 = .ok (.iload_n 2, 1) := by decide +kernel
theorem dX9_harmonic_28 : decode cX9_harmonic 28 = .ok (.sipush 1000, 3) := by decide +kernel
theorem dX9_harmonic_31 : decode cX9_harmonic 31 = .ok (.idiv, 1) := by decide +kernel
theorem dX9_harmonic_32 : decode cX9_harmonic 32 = .ok (.ireturn, 1) := by decide +kernel
set_option maxRecDepth 20000 in
theorem dX9_byRegisters_0 : decode cX9_byRegisters 0 = .ok (.bipush 8, 2) := by decide +kernel
theorem dX9_byRegisters_2 : decode cX9_byRegisters 2 = .ok (.aload_n 0, 1) := by decide +kernel
theorem dX9_byRegisters_3 : decode cX9_byRegisters 3 = .ok (.iload_n 1, 1) := by decide +kernel
theorem dX9_byRegisters_4 : decode cX9_byRegisters 4 = .ok (.invokestatic 70, 3) := by decide +kernel
theorem dX9_byRegisters_7 : decode cX9_byRegisters 7 = .ok (.isub, 1) := by decide +kernel
theorem dX9_byRegisters_8 : decode cX9_byRegisters 8 = .ok (.istore_n 2, 1) := by decide +kernel
theorem dX9_byRegisters_9 : decode cX9_byRegisters 9 = .ok (.iload_n 2, 1) := by decide +kernel
theorem dX9_byRegisters_10 : decode cX9_byRegisters 10 = .ok (.ifCond .le 10, 3) := by decide +kernel
theorem dX9_byRegisters_13 : decode cX9_byRegisters 13 = .ok (.iload_n 2, 1) := by decide +kernel
theorem dX9_byRegisters_14 : decode cX9_byRegisters 14 = .ok (.bipush 8, 2) := by decide +kernel
theorem dX9_byRegisters_16 : decode cX9_byRegisters 16 = .ok (.invokestatic 74, 3) := by decide +kernel
theorem dX9_byRegisters_19 : decode cX9_byRegisters 19 = .ok (.ireturn, 1) := by decide +kernel
theorem dX9_byRegisters_20 : decode cX9_byRegisters 20 = .ok (.iconst 0, 1) := by decide +kernel
theorem dX9_byRegisters_21 : decode cX9_byRegisters 21 = .ok (.istore_n 3, 1) := by decide +kernel
theorem dX9_byRegisters_22 : decode cX9_byRegisters 22 = .ok (.iconst 0, 1) := by decide +kernel
theorem dX9_byRegisters_23 : decode cX9_byRegisters 23 = .ok (.istore 4, 2) := by decide +kernel
theorem dX9_byRegisters_25 : decode cX9_byRegisters 25 = .ok (.iload 4, 2) := by decide +kernel
theorem dX9_byRegisters_27 : decode cX9_byRegisters 27 = .ok (.bipush 8, 2) := by decide +kernel
theorem dX9_byRegisters_29 : decode cX9_byRegisters 29 = .ok (.if_icmp .ge 26, 3) := by decide +kernel
theorem dX9_byRegisters_32 : decode cX9_byRegisters 32 = .ok (.iload_n 3, 1) := by decide +kernel
theorem dX9_byRegisters_33 : decode cX9_byRegisters 33 = .ok (.iconst 1, 1) := by decide +kernel
theorem dX9_byRegisters_34 : decode cX9_byRegisters 34 = .ok (.bipush 14, 2) := by decide +kernel
theorem dX9_byRegisters_36 : decode cX9_byRegisters 36 = .ok (.aload_n 0, 1) := by decide +kernel
theorem dX9_byRegisters_37 : decode cX9_byRegisters 37 = .ok (.iload_n 1, 1) := by decide +kernel
theorem dX9_byRegisters_38 : decode cX9_byRegisters 38 = .ok (.bipush 14, 2) := by decide +kernel
theorem dX9_byRegisters_40 : decode cX9_byRegisters 40 = .ok (.iadd, 1) := by decide +kernel
theorem dX9_byRegisters_41 : decode cX9_byRegisters 41 = .ok (.iload 4, 2) := by decide +kernel
theorem dX9_byRegisters_43 : decode cX9_byRegisters 43 = .ok (.iadd, 1) := by decide +kernel
theorem dX9_byRegisters_44 : decode cX9_byRegisters 44 = .ok (.iaload, 1) := by decide +kernel
theorem dX9_byRegisters_45 : decode cX9_byRegisters 45 = .ok (.isub, 1) := by decide +kernel
theorem dX9_byRegisters_46 : decode cX9_byRegisters 46 = .ok (.ishl, 1) := by decide +kernel
theorem dX9_byRegisters_47 : decode cX9_byRegisters 47 = .ok (.iadd, 1) := by decide +kernel
theorem dX9_byRegisters_48 : decode cX9_byRegisters 48 = .ok (.istore_n 3, 1) := by decide +kernel
theorem dX9_byRegisters_49 : decode cX9_byRegisters 49 = .ok (.iinc 4 1, 3) := by decide +kernel
theorem dX9_byRegisters_52 : decode cX9_byRegisters 52 = .ok (.goto (-27), 3) := by decide +kernel
theorem dX9_byRegisters_55 : decode cX9_byRegisters 55 = .ok (.ldc 78, 2) := by decide +kernel
theorem dX9_byRegisters_57 : decode cX9_byRegisters 57 = .ok (.iload_n 3, 1) := by decide +kernel
theorem dX9_byRegisters_58 : decode cX9_byRegisters 58 = .ok (.idiv, 1) := by decide +kernel
theorem dX9_byRegisters_59 : decode cX9_byRegisters 59 = .ok (.ireturn, 1) := by decide +kernel
set_option maxRecDepth 20000 in
theorem dX9_rough_0 : decode cX9_rough 0 = .ok (.aload_n 0, 1) := by decide +kernel
theorem dX9_rough_1 : decode cX9_rough 1 = .ok (.iload_n 1, 1) := by decide +kernel
theorem dX9_rough_2 : decode cX9_rough 2 = .ok (.iconst 0, 1) := by decide +kernel
theorem dX9_rough_3 : decode cX9_rough 3 = .ok (.iadd, 1) := by decide +kernel
theorem dX9_rough_4 : decode cX9_rough 4 = .ok (.iaload, 1) := by decide +kernel
theorem dX9_rough_5 : decode cX9_rough 5 = .ok (.lookupswitch 79 #[(0, 27), (1, 44)], 27) := by decide +kernel
theorem dX9_rough_32 : decode cX9_rough 32 = .ok (.bipush 32, 2) := by decide +kernel
theorem dX9_rough_34 : decode cX9_rough 34 = .ok (.aload_n 0, 1) := by decide +kernel
theorem dX9_rough_35 : decode cX9_rough 35 = .ok (.iload_n 1, 1) := by decide +kernel
theorem dX9_rough_36 : decode cX9_rough 36 = .ok (.iconst 4, 1) := by decide +kernel
theorem dX9_rough_37 : decode cX9_rough 37 = .ok (.iadd, 1) := by decide +kernel
theorem dX9_rough_38 : decode cX9_rough 38 = .ok (.iaload, 1) := by decide +kernel
theorem dX9_rough_39 : decode cX9_rough 39 = .ok (.invokestatic 67, 3) := by decide +kernel
theorem dX9_rough_42 : decode cX9_rough 42 = .ok (.isub, 1) := by decide +kernel
theorem dX9_rough_43 : decode cX9_rough 43 = .ok (.bipush 32, 2) := by decide +kernel
theorem dX9_rough_45 : decode cX9_rough 45 = .ok (.invokestatic 74, 3) := by decide +kernel
theorem dX9_rough_48 : decode cX9_rough 48 = .ok (.ireturn, 1) := by decide +kernel
theorem dX9_rough_49 : decode cX9_rough 49 = .ok (.aload_n 0, 1) := by decide +kernel
theorem dX9_rough_50 : decode cX9_rough 50 = .ok (.iload_n 1, 1) := by decide +kernel
theorem dX9_rough_51 : decode cX9_rough 51 = .ok (.iconst 5, 1) := by decide +kernel
theorem dX9_rough_52 : decode cX9_rough 52 = .ok (.iadd, 1) := by decide +kernel
theorem dX9_rough_53 : decode cX9_rough 53 = .ok (.iaload, 1) := by decide +kernel
theorem dX9_rough_54 : decode cX9_rough 54 = .ok (.bipush 8, 2) := by decide +kernel
theorem dX9_rough_56 : decode cX9_rough 56 = .ok (.if_icmp .ge 11, 3) := by decide +kernel
theorem dX9_rough_59 : decode cX9_rough 59 = .ok (.aload_n 0, 1) := by decide +kernel
theorem dX9_rough_60 : decode cX9_rough 60 = .ok (.iload_n 1, 1) := by decide +kernel
theorem dX9_rough_61 : decode cX9_rough 61 = .ok (.iconst 5, 1) := by decide +kernel
theorem dX9_rough_62 : decode cX9_rough 62 = .ok (.iadd, 1) := by decide +kernel
theorem dX9_rough_63 : decode cX9_rough 63 = .ok (.iaload, 1) := by decide +kernel
theorem dX9_rough_64 : decode cX9_rough 64 = .ok (.goto 19, 3) := by decide +kernel
theorem dX9_rough_67 : decode cX9_rough 67 = .ok (.ldc 79, 2) := by decide +kernel
theorem dX9_rough_69 : decode cX9_rough 69 = .ok (.aload_n 0, 1) := by decide +kernel
theorem dX9_rough_70 : decode cX9_rough 70 = .ok (.iload_n 1, 1) := by decide +kernel
theorem dX9_rough_71 : decode cX9_rough 71 = .ok (.bipush 6, 2) := by decide +kernel
theorem dX9_rough_73 : decode cX9_rough 73 = .ok (.iadd, 1) := by decide +kernel
theorem dX9_rough_74 : decode cX9_rough 74 = .ok (.bipush 8, 2) := by decide +kernel
theorem dX9_rough_76 : decode cX9_rough 76 = .ok (.iadd, 1) := by decide +kernel
theorem dX9_rough_77 : decode cX9_rough 77 = .ok (.iconst 1, 1) := by decide +kernel
theorem dX9_rough_78 : decode cX9_rough 78 = .ok (.isub, 1) := by decide +kernel
theorem dX9_rough_79 : decode cX9_rough 79 = .ok (.iaload, 1) := by decide +kernel
theorem dX9_rough_80 : decode cX9_rough 80 = .ok (.iconst 1, 1) := by decide +kernel
theorem dX9_rough_81 : decode cX9_rough 81 = .ok (.iadd, 1) := by decide +kernel
theorem dX9_rough_82 : decode cX9_rough 82 = .ok (.idiv, 1) := by decide +kernel
theorem dX9_rough_83 : decode cX9_rough 83 = .ok (.ireturn, 1) := by decide +kernel
theorem dX9_rough_84 : decode cX9_rough 84 = .ok (.aload_n 0, 1) := by decide +kernel
theorem dX9_rough_85 : decode cX9_rough 85 = .ok (.iload_n 1, 1) := by decide +kernel
theorem dX9_rough_86 : decode cX9_rough 86 = .ok (.invokestatic 80, 3) := by decide +kernel
theorem dX9_rough_89 : decode cX9_rough 89 = .ok (.ireturn, 1) := by decide +kernel
theorem dX9_high_0 : decode cX9_high 0 = .ok (.aload_n 0, 1) := by decide +kernel
theorem dX9_high_1 : decode cX9_high 1 = .ok (.iload_n 1, 1) := by decide +kernel
theorem dX9_high_2 : decode cX9_high 2 = .ok (.iconst 2, 1) := by decide +kernel
theorem dX9_high_3 : decode cX9_high 3 = .ok (.iadd, 1) := by decide +kernel
theorem dX9_high_4 : decode cX9_high 4 = .ok (.iaload, 1) := by decide +kernel
theorem dX9_high_5 : decode cX9_high 5 = .ok (.sipush 1000, 3) := by decide +kernel
theorem dX9_high_8 : decode cX9_high 8 = .ok (.if_icmp .ge 11, 3) := by decide +kernel
theorem dX9_high_11 : decode cX9_high 11 = .ok (.aload_n 0, 1) := by decide +kernel
theorem dX9_high_12 : decode cX9_high 12 = .ok (.iload_n 1, 1) := by decide +kernel
theorem dX9_high_13 : decode cX9_high 13 = .ok (.iconst 2, 1) := by decide +kernel
theorem dX9_high_14 : decode cX9_high 14 = .ok (.iadd, 1) := by decide +kernel
theorem dX9_high_15 : decode cX9_high 15 = .ok (.iaload, 1) := by decide +kernel
theorem dX9_high_16 : decode cX9_high 16 = .ok (.goto 6, 3) := by decide +kernel
theorem dX9_high_19 : decode cX9_high 19 = .ok (.sipush 1000, 3) := by decide +kernel
theorem dX9_high_22 : decode cX9_high 22 = .ok (.ireturn, 1) := by decide +kernel
set_option maxRecDepth 20000 in
theorem dX9_told_0 : decode cX9_told 0 = .ok (.aload_n 0, 1) := by decide +kernel
theorem dX9_told_1 : decode cX9_told 1 = .ok (.iload_n 1, 1) := by decide +kernel
theorem dX9_told_2 : decode cX9_told 2 = .ok (.invokestatic 83, 3) := by decide +kernel
theorem dX9_told_5 : decode cX9_told 5 = .ok (.istore_n 2, 1) := by decide +kernel
theorem dX9_told_6 : decode cX9_told 6 = .ok (.aload_n 0, 1) := by decide +kernel
theorem dX9_told_7 : decode cX9_told 7 = .ok (.iload_n 1, 1) := by decide +kernel
theorem dX9_told_8 : decode cX9_told 8 = .ok (.invokestatic 86, 3) := by decide +kernel
theorem dX9_told_11 : decode cX9_told 11 = .ok (.istore_n 3, 1) := by decide +kernel
theorem dX9_told_12 : decode cX9_told 12 = .ok (.aload_n 0, 1) := by decide +kernel
theorem dX9_told_13 : decode cX9_told 13 = .ok (.iload_n 1, 1) := by decide +kernel
theorem dX9_told_14 : decode cX9_told 14 = .ok (.invokestatic 89, 3) := by decide +kernel
theorem dX9_told_17 : decode cX9_told 17 = .ok (.istore 4, 2) := by decide +kernel
theorem dX9_told_19 : decode cX9_told 19 = .ok (.iload_n 2, 1) := by decide +kernel
theorem dX9_told_20 : decode cX9_told 20 = .ok (.iload_n 3, 1) := by decide +kernel
theorem dX9_told_21 : decode cX9_told 21 = .ok (.if_icmp .ge 7, 3) := by decide +kernel
theorem dX9_told_24 : decode cX9_told 24 = .ok (.iload_n 3, 1) := by decide +kernel
theorem dX9_told_25 : decode cX9_told 25 = .ok (.goto 4, 3) := by decide +kernel
theorem dX9_told_28 : decode cX9_told 28 = .ok (.iload_n 2, 1) := by decide +kernel
theorem dX9_told_29 : decode cX9_told 29 = .ok (.istore_n 2, 1) := by decide +kernel
theorem dX9_told_30 : decode cX9_told 30 = .ok (.iload_n 2, 1) := by decide +kernel
theorem dX9_told_31 : decode cX9_told 31 = .ok (.iload 4, 2) := by decide +kernel
theorem dX9_told_33 : decode cX9_told 33 = .ok (.if_icmp .le 8, 3) := by decide +kernel
theorem dX9_told_36 : decode cX9_told 36 = .ok (.iload 4, 2) := by decide +kernel
theorem dX9_told_38 : decode cX9_told 38 = .ok (.goto 4, 3) := by decide +kernel
theorem dX9_told_41 : decode cX9_told 41 = .ok (.iload_n 2, 1) := by decide +kernel
theorem dX9_told_42 : decode cX9_told 42 = .ok (.ireturn, 1) := by decide +kernel
set_option maxRecDepth 20000 in
theorem dX9_toldOf_0 : decode cX9_toldOf 0 = .ok (.aload_n 0, 1) := by decide +kernel
theorem dX9_toldOf_1 : decode cX9_toldOf 1 = .ok (.getfield 7, 3) := by decide +kernel
theorem dX9_toldOf_4 : decode cX9_toldOf 4 = .ok (.bipush 23, 2) := by decide +kernel
theorem dX9_toldOf_6 : decode cX9_toldOf 6 = .ok (.iload_n 1, 1) := by decide +kernel
theorem dX9_toldOf_7 : decode cX9_toldOf 7 = .ok (.imul, 1) := by decide +kernel
theorem dX9_toldOf_8 : decode cX9_toldOf 8 = .ok (.invokestatic 92, 3) := by decide +kernel
theorem dX9_toldOf_11 : decode cX9_toldOf 11 = .ok (.ireturn, 1) := by decide +kernel
theorem dX9_exact_0 : decode cX9_exact 0 = .ok (.aload_n 0, 1) := by decide +kernel
theorem dX9_exact_1 : decode cX9_exact 1 = .ok (.getfield 7, 3) := by decide +kernel
theorem dX9_exact_4 : decode cX9_exact 4 = .ok (.bipush 23, 2) := by decide +kernel
theorem dX9_exact_6 : decode cX9_exact 6 = .ok (.iload_n 1, 1) := by decide +kernel
theorem dX9_exact_7 : decode cX9_exact 7 = .ok (.imul, 1) := by decide +kernel
theorem dX9_exact_8 : decode cX9_exact 8 = .ok (.bipush 22, 2) := by decide +kernel
theorem dX9_exact_10 : decode cX9_exact 10 = .ok (.iadd, 1) := by decide +kernel
theorem dX9_exact_11 : decode cX9_exact 11 = .ok (.iaload, 1) := by decide +kernel
theorem dX9_exact_12 : decode cX9_exact 12 = .ok (.ireturn, 1) := by decide +kernel
set_option maxRecDepth 20000 in
theorem dX9_error_0 : decode cX9_error 0 = .ok (.aload_n 0, 1) := by decide +kernel
theorem dX9_error_1 : decode cX9_error 1 = .ok (.iload_n 1, 1) := by decide +kernel
theorem dX9_error_2 : decode cX9_error 2 = .ok (.invokevirtual 95, 3) := by decide +kernel
theorem dX9_error_5 : decode cX9_error 5 = .ok (.aload_n 0, 1) := by decide +kernel
theorem dX9_error_6 : decode cX9_error 6 = .ok (.iload_n 1, 1) := by decide +kernel
theorem dX9_error_7 : decode cX9_error 7 = .ok (.invokevirtual 98, 3) := by decide +kernel
theorem dX9_error_10 : decode cX9_error 10 = .ok (.isub, 1) := by decide +kernel
theorem dX9_error_11 : decode cX9_error 11 = .ok (.ireturn, 1) := by decide +kernel
theorem dX9_added_0 : decode cX9_added 0 = .ok (.iload_n 1, 1) := by decide +kernel
theorem dX9_added_1 : decode cX9_added 1 = .ok (.i2l, 1) := by decide +kernel
theorem dX9_added_2 : decode cX9_added 2 = .ok (.iload_n 2, 1) := by decide +kernel
theorem dX9_added_3 : decode cX9_added 3 = .ok (.i2l, 1) := by decide +kernel
theorem dX9_added_4 : decode cX9_added 4 = .ok (.ladd, 1) := by decide +kernel
theorem dX9_added_5 : decode cX9_added 5 = .ok (.lstore_n 3, 1) := by decide +kernel
theorem dX9_added_6 : decode cX9_added 6 = .ok (.lload_n 3, 1) := by decide +kernel
theorem dX9_added_7 : decode cX9_added 7 = .ok (.ldc2_w 101, 3) := by decide +kernel
theorem dX9_added_10 : decode cX9_added 10 = .ok (.lcmp, 1) := by decide +kernel
theorem dX9_added_11 : decode cX9_added 11 = .ok (.ifCond .le 8, 3) := by decide +kernel
theorem dX9_added_14 : decode cX9_added 14 = .ok (.ldc 103, 2) := by decide +kernel
theorem dX9_added_16 : decode cX9_added 16 = .ok (.goto 5, 3) := by decide +kernel
theorem dX9_added_19 : decode cX9_added 19 = .ok (.lload_n 3, 1) := by decide +kernel
theorem dX9_added_20 : decode cX9_added 20 = .ok (.l2i, 1) := by decide +kernel
theorem dX9_added_21 : decode cX9_added 21 = .ok (.ireturn, 1) := by decide +kernel
set_option maxRecDepth 20000 in
theorem dX9_makeTable_0 : decode cX9_makeTable 0 = .ok (.iload_n 1, 1) := by decide +kernel
theorem dX9_makeTable_1 : decode cX9_makeTable 1 = .ok (.iconst 0, 1) := by decide +kernel
theorem dX9_makeTable_2 : decode cX9_makeTable 2 = .ok (.iconst 2, 1) := by decide +kernel
theorem dX9_makeTable_3 : decode cX9_makeTable 3 = .ok (.invokestatic 49, 3) := by decide +kernel
theorem dX9_makeTable_6 : decode cX9_makeTable 6 = .ok (.ifCond .eq 13, 3) := by decide +kernel
theorem dX9_makeTable_9 : decode cX9_makeTable 9 = .ok (.iload_n 2, 1) := by decide +kernel
theorem dX9_makeTable_10 : decode cX9_makeTable 10 = .ok (.iconst 0, 1) := by decide +kernel
theorem dX9_makeTable_11 : decode cX9_makeTable 11 = .ok (.bipush 9, 2) := by decide +kernel
theorem dX9_makeTable_13 : decode cX9_makeTable 13 = .ok (.invokestatic 49, 3) := by decide +kernel
theorem dX9_makeTable_16 : decode cX9_makeTable 16 = .ok (.ifCond .ne 5, 3) := by decide +kernel
theorem dX9_makeTable_19 : decode cX9_makeTable 19 = .ok (.iconst (-1), 1) := by decide +kernel
theorem dX9_makeTable_20 : decode cX9_makeTable 20 = .ok (.ireturn, 1) := by decide +kernel
theorem dX9_makeTable_21 : decode cX9_makeTable 21 = .ok (.aload_n 0, 1) := by decide +kernel
theorem dX9_makeTable_22 : decode cX9_makeTable 22 = .ok (.getfield 7, 3) := by decide +kernel
theorem dX9_makeTable_25 : decode cX9_makeTable 25 = .ok (.sipush 138, 3) := by decide +kernel
theorem dX9_makeTable_28 : decode cX9_makeTable 28 = .ok (.iaload, 1) := by decide +kernel
theorem dX9_makeTable_29 : decode cX9_makeTable 29 = .ok (.bipush 6, 2) := by decide +kernel
theorem dX9_makeTable_31 : decode cX9_makeTable 31 = .ok (.if_icmp .ne 6, 3) := by decide +kernel
theorem dX9_makeTable_34 : decode cX9_makeTable 34 = .ok (.bipush (-3), 2) := by decide +kernel
theorem dX9_makeTable_36 : decode cX9_makeTable 36 = .ok (.ireturn, 1) := by decide +kernel
theorem dX9_makeTable_37 : decode cX9_makeTable 37 = .ok (.bipush 23, 2) := by decide +kernel
theorem dX9_makeTable_39 : decode cX9_makeTable 39 = .ok (.aload_n 0, 1) := by decide +kernel
theorem dX9_makeTable_40 : decode cX9_makeTable 40 = .ok (.getfield 7, 3) := by decide +kernel
theorem dX9_makeTable_43 : decode cX9_makeTable 43 = .ok (.sipush 138, 3) := by decide +kernel
theorem dX9_makeTable_46 : decode cX9_makeTable 46 = .ok (.iaload, 1) := by decide +kernel
theorem dX9_makeTable_47 : decode cX9_makeTable 47 = .ok (.imul, 1) := by decide +kernel
theorem dX9_makeTable_48 : decode cX9_makeTable 48 = .ok (.istore_n 3, 1) := by decide +kernel
theorem dX9_makeTable_49 : decode cX9_makeTable 49 = .ok (.iconst 0, 1) := by decide +kernel
theorem dX9_makeTable_50 : decode cX9_makeTable 50 = .ok (.istore 4, 2) := by decide +kernel
theorem dX9_makeTable_52 : decode cX9_makeTable 52 = .ok (.iload 4, 2) := by decide +kernel
theorem dX9_makeTable_54 : decode cX9_makeTable 54 = .ok (.bipush 23, 2) := by decide +kernel
theorem dX9_makeTable_56 : decode cX9_makeTable 56 = .ok (.if_icmp .ge 19, 3) := by decide +kernel
theorem dX9_makeTable_59 : decode cX9_makeTable 59 = .ok (.aload_n 0, 1) := by decide +kernel
theorem dX9_makeTable_60 : decode cX9_makeTable 60 = .ok (.getfield 7, 3) := by decide +kernel
theorem dX9_makeTable_63 : decode cX9_makeTable 63 = .ok (.iload_n 3, 1) := by decide +kernel
theorem dX9_makeTable_64 : decode cX9_makeTable 64 = .ok (.iload 4, 2) := by decide +kernel
theorem dX9_makeTable_66 : decode cX9_makeTable 66 = .ok (.iadd, 1) := by decide +kernel
theorem dX9_makeTable_67 : decode cX9_makeTable 67 = .ok (.iconst 0, 1) := by decide +kernel
theorem dX9_makeTable_68 : decode cX9_makeTable 68 = .ok (.iastore, 1) := by decide +kernel
theorem dX9_makeTable_69 : decode cX9_makeTable 69 = .ok (.iinc 4 1, 3) := by decide +kernel
theorem dX9_makeTable_72 : decode cX9_makeTable 72 = .ok (.goto (-20), 3) := by decide +kernel
theorem dX9_makeTable_75 : decode cX9_makeTable 75 = .ok (.aload_n 0, 1) := by decide +kernel
theorem dX9_makeTable_76 : decode cX9_makeTable 76 = .ok (.getfield 7, 3) := by decide +kernel
theorem dX9_makeTable_79 : decode cX9_makeTable 79 = .ok (.iload_n 3, 1) := by decide +kernel
theorem dX9_makeTable_80 : decode cX9_makeTable 80 = .ok (.iconst 0, 1) := by decide +kernel
theorem dX9_makeTable_81 : decode cX9_makeTable 81 = .ok (.iadd, 1) := by decide +kernel
theorem dX9_makeTable_82 : decode cX9_makeTable 82 = .ok (.iload_n 1, 1) := by decide +kernel
theorem dX9_makeTable_83 : decode cX9_makeTable 83 = .ok (.iastore, 1) := by decide +kernel
theorem dX9_makeTable_84 : decode cX9_makeTable 84 = .ok (.aload_n 0, 1) := by decide +kernel
theorem dX9_makeTable_85 : decode cX9_makeTable 85 = .ok (.getfield 7, 3) := by decide +kernel
theorem dX9_makeTable_88 : decode cX9_makeTable 88 = .ok (.iload_n 3, 1) := by decide +kernel
theorem dX9_makeTable_89 : decode cX9_makeTable 89 = .ok (.iconst 1, 1) := by decide +kernel
theorem dX9_makeTable_90 : decode cX9_makeTable 90 = .ok (.iadd, 1) := by decide +kernel
theorem dX9_makeTable_91 : decode cX9_makeTable 91 = .ok (.iload_n 2, 1) := by decide +kernel
theorem dX9_makeTable_92 : decode cX9_makeTable 92 = .ok (.iastore, 1) := by decide +kernel
theorem dX9_makeTable_93 : decode cX9_makeTable 93 = .ok (.aload_n 0, 1) := by decide +kernel
theorem dX9_makeTable_94 : decode cX9_makeTable 94 = .ok (.aload_n 0, 1) := by decide +kernel
theorem dX9_makeTable_95 : decode cX9_makeTable 95 = .ok (.getfield 7, 3) := by decide +kernel
theorem dX9_makeTable_98 : decode cX9_makeTable 98 = .ok (.sipush 138, 3) := by decide +kernel
theorem dX9_makeTable_101 : decode cX9_makeTable 101 = .ok (.iaload, 1) := by decide +kernel
theorem dX9_makeTable_102 : decode cX9_makeTable 102 = .ok (.invokevirtual 104, 3) := by decide +kernel
theorem dX9_makeTable_105 : decode cX9_makeTable 105 = .ok (.aload_n 0, 1) := by decide +kernel
theorem dX9_makeTable_106 : decode cX9_makeTable 106 = .ok (.getfield 7, 3) := by decide +kernel
theorem dX9_makeTable_109 : decode cX9_makeTable 109 = .ok (.sipush 138, 3) := by decide +kernel
theorem dX9_makeTable_112 : decode cX9_makeTable 112 = .ok (.dup2, 1) := by decide +kernel
theorem dX9_makeTable_113 : decode cX9_makeTable 113 = .ok (.iaload, 1) := by decide +kernel
theorem dX9_makeTable_114 : decode cX9_makeTable 114 = .ok (.iconst 1, 1) := by decide +kernel
theorem dX9_makeTable_115 : decode cX9_makeTable 115 = .ok (.iadd, 1) := by decide +kernel
theorem dX9_makeTable_116 : decode cX9_makeTable 116 = .ok (.iastore, 1) := by decide +kernel
theorem dX9_makeTable_117 : decode cX9_makeTable 117 = .ok (.aload_n 0, 1) := by decide +kernel
theorem dX9_makeTable_118 : decode cX9_makeTable 118 = .ok (.getfield 7, 3) := by decide +kernel
theorem dX9_makeTable_121 : decode cX9_makeTable 121 = .ok (.sipush 138, 3) := by decide +kernel
theorem dX9_makeTable_124 : decode cX9_makeTable 124 = .ok (.iaload, 1) := by decide +kernel
theorem dX9_makeTable_125 : decode cX9_makeTable 125 = .ok (.iconst 1, 1) := by decide +kernel
theorem dX9_makeTable_126 : decode cX9_makeTable 126 = .ok (.isub, 1) := by decide +kernel
theorem dX9_makeTable_127 : decode cX9_makeTable 127 = .ok (.ireturn, 1) := by decide +kernel
theorem dX9_forgets_0 : decode cX9_forgets 0 = .ok (.iconst 0, 1) := by decide +kernel
theorem dX9_forgets_1 : decode cX9_forgets 1 = .ok (.istore_n 2, 1) := by decide +kernel
theorem dX9_forgets_2 : decode cX9_forgets 2 = .ok (.iload_n 2, 1) := by decide +kernel
theorem dX9_forgets_3 : decode cX9_forgets 3 = .ok (.sipush 1000, 3) := by decide +kernel
theorem dX9_forgets_6 : decode cX9_forgets 6 = .ok (.if_icmp .ge 26, 3) := by decide +kernel
theorem dX9_forgets_9 : decode cX9_forgets 9 = .ok (.aload_n 0, 1) := by decide +kernel
theorem dX9_forgets_10 : decode cX9_forgets 10 = .ok (.getfield 7, 3) := by decide +kernel
theorem dX9_forgets_13 : decode cX9_forgets 13 = .ok (.sipush 165, 3) := by decide +kernel
theorem dX9_forgets_16 : decode cX9_forgets 16 = .ok (.sipush 1000, 3) := by decide +kernel
theorem dX9_forgets_19 : decode cX9_forgets 19 = .ok (.iload_n 1, 1) := by decide +kernel
theorem dX9_forgets_20 : decode cX9_forgets 20 = .ok (.imul, 1) := by decide +kernel
theorem dX9_forgets_21 : decode cX9_forgets 21 = .ok (.iadd, 1) := by decide +kernel
theorem dX9_forgets_22 : decode cX9_forgets 22 = .ok (.iload_n 2, 1) := by decide +kernel
theorem dX9_forgets_23 : decode cX9_forgets 23 = .ok (.iadd, 1) := by decide +kernel
theorem dX9_forgets_24 : decode cX9_forgets 24 = .ok (.iconst 0, 1) := by decide +kernel
theorem dX9_forgets_25 : decode cX9_forgets 25 = .ok (.iastore, 1) := by decide +kernel
theorem dX9_forgets_26 : decode cX9_forgets 26 = .ok (.iinc 2 1, 3) := by decide +kernel
theorem dX9_forgets_29 : decode cX9_forgets 29 = .ok (.goto (-27), 3) := by decide +kernel
theorem dX9_forgets_32 : decode cX9_forgets 32 = .ok (.return_, 1) := by decide +kernel
set_option maxRecDepth 20000 in
theorem dX9_sees_0 : decode cX9_sees 0 = .ok (.bipush 23, 2) := by decide +kernel
theorem dX9_sees_2 : decode cX9_sees 2 = .ok (.iload_n 1, 1) := by decide +kernel
theorem dX9_sees_3 : decode cX9_sees 3 = .ok (.imul, 1) := by decide +kernel
theorem dX9_sees_4 : decode cX9_sees 4 = .ok (.istore_n 3, 1) := by decide +kernel
theorem dX9_sees_5 : decode cX9_sees 5 = .ok (.sipush 165, 3) := by decide +kernel
theorem dX9_sees_8 : decode cX9_sees 8 = .ok (.sipush 1000, 3) := by decide +kernel
theorem dX9_sees_11 : decode cX9_sees 11 = .ok (.iload_n 1, 1) := by decide +kernel
theorem dX9_sees_12 : decode cX9_sees 12 = .ok (.imul, 1) := by decide +kernel
theorem dX9_sees_13 : decode cX9_sees 13 = .ok (.iadd, 1) := by decide +kernel
theorem dX9_sees_14 : decode cX9_sees 14 = .ok (.iload_n 2, 1) := by decide +kernel
theorem dX9_sees_15 : decode cX9_sees 15 = .ok (.iadd, 1) := by decide +kernel
theorem dX9_sees_16 : decode cX9_sees 16 = .ok (.istore 4, 2) := by decide +kernel
theorem dX9_sees_18 : decode cX9_sees 18 = .ok (.aload_n 0, 1) := by decide +kernel
theorem dX9_sees_19 : decode cX9_sees 19 = .ok (.getfield 7, 3) := by decide +kernel
theorem dX9_sees_22 : decode cX9_sees 22 = .ok (.iload_n 3, 1) := by decide +kernel
theorem dX9_sees_23 : decode cX9_sees 23 = .ok (.iload_n 2, 1) := by decide +kernel
theorem dX9_sees_24 : decode cX9_sees 24 = .ok (.aload_n 0, 1) := by decide +kernel
theorem dX9_sees_25 : decode cX9_sees 25 = .ok (.getfield 7, 3) := by decide +kernel
theorem dX9_sees_28 : decode cX9_sees 28 = .ok (.iload_n 3, 1) := by decide +kernel
theorem dX9_sees_29 : decode cX9_sees 29 = .ok (.iconst 1, 1) := by decide +kernel
theorem dX9_sees_30 : decode cX9_sees 30 = .ok (.iadd, 1) := by decide +kernel
theorem dX9_sees_31 : decode cX9_sees 31 = .ok (.iaload, 1) := by decide +kernel
theorem dX9_sees_32 : decode cX9_sees 32 = .ok (.invokestatic 107, 3) := by decide +kernel
theorem dX9_sees_35 : decode cX9_sees 35 = .ok (.invokestatic 110, 3) := by decide +kernel
theorem dX9_sees_38 : decode cX9_sees 38 = .ok (.aload_n 0, 1) := by decide +kernel
theorem dX9_sees_39 : decode cX9_sees 39 = .ok (.getfield 7, 3) := by decide +kernel
theorem dX9_sees_42 : decode cX9_sees 42 = .ok (.iload_n 3, 1) := by decide +kernel
theorem dX9_sees_43 : decode cX9_sees 43 = .ok (.iconst 2, 1) := by decide +kernel
theorem dX9_sees_44 : decode cX9_sees 44 = .ok (.iadd, 1) := by decide +kernel
theorem dX9_sees_45 : decode cX9_sees 45 = .ok (.aload_n 0, 1) := by decide +kernel
theorem dX9_sees_46 : decode cX9_sees 46 = .ok (.aload_n 0, 1) := by decide +kernel
theorem dX9_sees_47 : decode cX9_sees 47 = .ok (.getfield 7, 3) := by decide +kernel
theorem dX9_sees_50 : decode cX9_sees 50 = .ok (.iload_n 3, 1) := by decide +kernel
theorem dX9_sees_51 : decode cX9_sees 51 = .ok (.iconst 2, 1) := by decide +kernel
theorem dX9_sees_52 : decode cX9_sees 52 = .ok (.iadd, 1) := by decide +kernel
theorem dX9_sees_53 : decode cX9_sees 53 = .ok (.iaload, 1) := by decide +kernel
theorem dX9_sees_54 : decode cX9_sees 54 = .ok (.iconst 1, 1) := by decide +kernel
theorem dX9_sees_55 : decode cX9_sees 55 = .ok (.invokevirtual 113, 3) := by decide +kernel
theorem dX9_sees_58 : decode cX9_sees 58 = .ok (.iastore, 1) := by decide +kernel
theorem dX9_sees_59 : decode cX9_sees 59 = .ok (.aload_n 0, 1) := by decide +kernel
theorem dX9_sees_60 : decode cX9_sees 60 = .ok (.getfield 7, 3) := by decide +kernel
theorem dX9_sees_63 : decode cX9_sees 63 = .ok (.iload 4, 2) := by decide +kernel
theorem dX9_sees_65 : decode cX9_sees 65 = .ok (.iaload, 1) := by decide +kernel
theorem dX9_sees_66 : decode cX9_sees 66 = .ok (.ifCond .ne 33, 3) := by decide +kernel
theorem dX9_sees_69 : decode cX9_sees 69 = .ok (.aload_n 0, 1) := by decide +kernel
theorem dX9_sees_70 : decode cX9_sees 70 = .ok (.getfield 7, 3) := by decide +kernel
theorem dX9_sees_73 : decode cX9_sees 73 = .ok (.iload 4, 2) := by decide +kernel
theorem dX9_sees_75 : decode cX9_sees 75 = .ok (.aload_n 0, 1) := by decide +kernel
theorem dX9_sees_76 : decode cX9_sees 76 = .ok (.getfield 7, 3) := by decide +kernel
theorem dX9_sees_79 : decode cX9_sees 79 = .ok (.sipush 139, 3) := by decide +kernel
theorem dX9_sees_82 : decode cX9_sees 82 = .ok (.iaload, 1) := by decide +kernel
theorem dX9_sees_83 : decode cX9_sees 83 = .ok (.iconst 1, 1) := by decide +kernel
theorem dX9_sees_84 : decode cX9_sees 84 = .ok (.iadd, 1) := by decide +kernel
theorem dX9_sees_85 : decode cX9_sees 85 = .ok (.iastore, 1) := by decide +kernel
theorem dX9_sees_86 : decode cX9_sees 86 = .ok (.aload_n 0, 1) := by decide +kernel
theorem dX9_sees_87 : decode cX9_sees 87 = .ok (.getfield 7, 3) := by decide +kernel
theorem dX9_sees_90 : decode cX9_sees 90 = .ok (.iload_n 3, 1) := by decide +kernel
theorem dX9_sees_91 : decode cX9_sees 91 = .ok (.bipush 22, 2) := by decide +kernel
theorem dX9_sees_93 : decode cX9_sees 93 = .ok (.iadd, 1) := by decide +kernel
theorem dX9_sees_94 : decode cX9_sees 94 = .ok (.dup2, 1) := by decide +kernel
theorem dX9_sees_95 : decode cX9_sees 95 = .ok (.iaload, 1) := by decide +kernel
theorem dX9_sees_96 : decode cX9_sees 96 = .ok (.iconst 1, 1) := by decide +kernel
theorem dX9_sees_97 : decode cX9_sees 97 = .ok (.iadd, 1) := by decide +kernel
theorem dX9_sees_98 : decode cX9_sees 98 = .ok (.iastore, 1) := by decide +kernel
theorem dX9_sees_99 : decode cX9_sees 99 = .ok (.aload_n 0, 1) := by decide +kernel
theorem dX9_sees_100 : decode cX9_sees 100 = .ok (.getfield 7, 3) := by decide +kernel
theorem dX9_sees_103 : decode cX9_sees 103 = .ok (.sipush 139, 3) := by decide +kernel
theorem dX9_sees_106 : decode cX9_sees 106 = .ok (.dup2, 1) := by decide +kernel
theorem dX9_sees_107 : decode cX9_sees 107 = .ok (.iaload, 1) := by decide +kernel
theorem dX9_sees_108 : decode cX9_sees 108 = .ok (.iconst 1, 1) := by decide +kernel
theorem dX9_sees_109 : decode cX9_sees 109 = .ok (.iadd, 1) := by decide +kernel
theorem dX9_sees_110 : decode cX9_sees 110 = .ok (.iastore, 1) := by decide +kernel
theorem dX9_sees_111 : decode cX9_sees 111 = .ok (.return_, 1) := by decide +kernel
set_option maxRecDepth 20000 in
theorem dX9_seesRow_0 : decode cX9_seesRow 0 = .ok (.aload_n 0, 1) := by decide +kernel
theorem dX9_seesRow_1 : decode cX9_seesRow 1 = .ok (.iload_n 1, 1) := by decide +kernel
theorem dX9_seesRow_2 : decode cX9_seesRow 2 = .ok (.invokevirtual 116, 3) := by decide +kernel
theorem dX9_seesRow_5 : decode cX9_seesRow 5 = .ok (.ifCond .eq 32, 3) := by decide +kernel
theorem dX9_seesRow_8 : decode cX9_seesRow 8 = .ok (.iload_n 2, 1) := by decide +kernel
theorem dX9_seesRow_9 : decode cX9_seesRow 9 = .ok (.invokestatic 120, 3) := by decide +kernel
theorem dX9_seesRow_12 : decode cX9_seesRow 12 = .ok (.ifCond .eq 25, 3) := by decide +kernel
theorem dX9_seesRow_15 : decode cX9_seesRow 15 = .ok (.iload_n 3, 1) := by decide +kernel
theorem dX9_seesRow_16 : decode cX9_seesRow 16 = .ok (.iconst 0, 1) := by decide +kernel
theorem dX9_seesRow_17 : decode cX9_seesRow 17 = .ok (.sipush 999, 3) := by decide +kernel
theorem dX9_seesRow_20 : decode cX9_seesRow 20 = .ok (.invokestatic 49, 3) := by decide +kernel
theorem dX9_seesRow_23 : decode cX9_seesRow 23 = .ok (.ifCond .eq 14, 3) := by decide +kernel
theorem dX9_seesRow_26 : decode cX9_seesRow 26 = .ok (.iload 4, 2) := by decide +kernel
theorem dX9_seesRow_28 : decode cX9_seesRow 28 = .ok (.iconst 1, 1) := by decide +kernel
theorem dX9_seesRow_29 : decode cX9_seesRow 29 = .ok (.bipush 100, 2) := by decide +kernel
theorem dX9_seesRow_31 : decode cX9_seesRow 31 = .ok (.invokestatic 49, 3) := by decide +kernel
theorem dX9_seesRow_34 : decode cX9_seesRow 34 = .ok (.ifCond .ne 5, 3) := by decide +kernel
theorem dX9_seesRow_37 : decode cX9_seesRow 37 = .ok (.iconst (-1), 1) := by decide +kernel
theorem dX9_seesRow_38 : decode cX9_seesRow 38 = .ok (.ireturn, 1) := by decide +kernel
theorem dX9_seesRow_39 : decode cX9_seesRow 39 = .ok (.aload_n 0, 1) := by decide +kernel
theorem dX9_seesRow_40 : decode cX9_seesRow 40 = .ok (.getfield 7, 3) := by decide +kernel
theorem dX9_seesRow_43 : decode cX9_seesRow 43 = .ok (.sipush 139, 3) := by decide +kernel
theorem dX9_seesRow_46 : decode cX9_seesRow 46 = .ok (.iaload, 1) := by decide +kernel
theorem dX9_seesRow_47 : decode cX9_seesRow 47 = .ok (.iload 4, 2) := by decide +kernel
theorem dX9_seesRow_49 : decode cX9_seesRow 49 = .ok (.iadd, 1) := by decide +kernel
theorem dX9_seesRow_50 : decode cX9_seesRow 50 = .ok (.sipush 20000, 3) := by decide +kernel
theorem dX9_seesRow_53 : decode cX9_seesRow 53 = .ok (.if_icmp .le 6, 3) := by decide +kernel
theorem dX9_seesRow_56 : decode cX9_seesRow 56 = .ok (.bipush (-3), 2) := by decide +kernel
theorem dX9_seesRow_58 : decode cX9_seesRow 58 = .ok (.ireturn, 1) := by decide +kernel
theorem dX9_seesRow_59 : decode cX9_seesRow 59 = .ok (.iload_n 2, 1) := by decide +kernel
theorem dX9_seesRow_60 : decode cX9_seesRow 60 = .ok (.istore 5, 2) := by decide +kernel
theorem dX9_seesRow_62 : decode cX9_seesRow 62 = .ok (.iconst 0, 1) := by decide +kernel
theorem dX9_seesRow_63 : decode cX9_seesRow 63 = .ok (.istore 6, 2) := by decide +kernel
theorem dX9_seesRow_65 : decode cX9_seesRow 65 = .ok (.iload 6, 2) := by decide +kernel
theorem dX9_seesRow_67 : decode cX9_seesRow 67 = .ok (.iload 4, 2) := by decide +kernel
theorem dX9_seesRow_69 : decode cX9_seesRow 69 = .ok (.if_icmp .ge 26, 3) := by decide +kernel
theorem dX9_seesRow_72 : decode cX9_seesRow 72 = .ok (.aload_n 0, 1) := by decide +kernel
theorem dX9_seesRow_73 : decode cX9_seesRow 73 = .ok (.iload_n 1, 1) := by decide +kernel
theorem dX9_seesRow_74 : decode cX9_seesRow 74 = .ok (.iload 5, 2) := by decide +kernel
theorem dX9_seesRow_76 : decode cX9_seesRow 76 = .ok (.invokevirtual 123, 3) := by decide +kernel
theorem dX9_seesRow_79 : decode cX9_seesRow 79 = .ok (.iload 5, 2) := by decide +kernel
theorem dX9_seesRow_81 : decode cX9_seesRow 81 = .ok (.iload_n 3, 1) := by decide +kernel
theorem dX9_seesRow_82 : decode cX9_seesRow 82 = .ok (.iadd, 1) := by decide +kernel
theorem dX9_seesRow_83 : decode cX9_seesRow 83 = .ok (.sipush 1000, 3) := by decide +kernel
theorem dX9_seesRow_86 : decode cX9_seesRow 86 = .ok (.irem, 1) := by decide +kernel
theorem dX9_seesRow_87 : decode cX9_seesRow 87 = .ok (.istore 5, 2) := by decide +kernel
theorem dX9_seesRow_89 : decode cX9_seesRow 89 = .ok (.iinc 6 1, 3) := by decide +kernel
theorem dX9_seesRow_92 : decode cX9_seesRow 92 = .ok (.goto (-27), 3) := by decide +kernel
theorem dX9_seesRow_95 : decode cX9_seesRow 95 = .ok (.aload_n 0, 1) := by decide +kernel
theorem dX9_seesRow_96 : decode cX9_seesRow 96 = .ok (.iload_n 1, 1) := by decide +kernel
theorem dX9_seesRow_97 : decode cX9_seesRow 97 = .ok (.invokevirtual 95, 3) := by decide +kernel
theorem dX9_seesRow_100 : decode cX9_seesRow 100 = .ok (.ireturn, 1) := by decide +kernel
set_option maxRecDepth 20000 in
theorem dX9_mingles_0 : decode cX9_mingles 0 = .ok (.aload_n 0, 1) := by decide +kernel
theorem dX9_mingles_1 : decode cX9_mingles 1 = .ok (.iload_n 1, 1) := by decide +kernel
theorem dX9_mingles_2 : decode cX9_mingles 2 = .ok (.iconst 4, 1) := by decide +kernel
theorem dX9_mingles_3 : decode cX9_mingles 3 = .ok (.iadd, 1) := by decide +kernel
theorem dX9_mingles_4 : decode cX9_mingles 4 = .ok (.dup2, 1) := by decide +kernel
theorem dX9_mingles_5 : decode cX9_mingles 5 = .ok (.iaload, 1) := by decide +kernel
theorem dX9_mingles_6 : decode cX9_mingles 6 = .ok (.aload_n 2, 1) := by decide +kernel
theorem dX9_mingles_7 : decode cX9_mingles 7 = .ok (.iload_n 3, 1) := by decide +kernel
theorem dX9_mingles_8 : decode cX9_mingles 8 = .ok (.iconst 4, 1) := by decide +kernel
theorem dX9_mingles_9 : decode cX9_mingles 9 = .ok (.iadd, 1) := by decide +kernel
theorem dX9_mingles_10 : decode cX9_mingles 10 = .ok (.iaload, 1) := by decide +kernel
theorem dX9_mingles_11 : decode cX9_mingles 11 = .ok (.ior, 1) := by decide +kernel
theorem dX9_mingles_12 : decode cX9_mingles 12 = .ok (.iastore, 1) := by decide +kernel
theorem dX9_mingles_13 : decode cX9_mingles 13 = .ok (.iconst 0, 1) := by decide +kernel
theorem dX9_mingles_14 : decode cX9_mingles 14 = .ok (.istore 4, 2) := by decide +kernel
theorem dX9_mingles_16 : decode cX9_mingles 16 = .ok (.iload 4, 2) := by decide +kernel
theorem dX9_mingles_18 : decode cX9_mingles 18 = .ok (.aload_n 2, 1) := by decide +kernel
theorem dX9_mingles_19 : decode cX9_mingles 19 = .ok (.iload_n 3, 1) := by decide +kernel
theorem dX9_mingles_20 : decode cX9_mingles 20 = .ok (.iconst 5, 1) := by decide +kernel
theorem dX9_mingles_21 : decode cX9_mingles 21 = .ok (.iadd, 1) := by decide +kernel
theorem dX9_mingles_22 : decode cX9_mingles 22 = .ok (.iaload, 1) := by decide +kernel
theorem dX9_mingles_23 : decode cX9_mingles 23 = .ok (.if_icmp .ge 23, 3) := by decide +kernel
theorem dX9_mingles_26 : decode cX9_mingles 26 = .ok (.aload_n 0, 1) := by decide +kernel
theorem dX9_mingles_27 : decode cX9_mingles 27 = .ok (.iload_n 1, 1) := by decide +kernel
theorem dX9_mingles_28 : decode cX9_mingles 28 = .ok (.aload_n 2, 1) := by decide +kernel
theorem dX9_mingles_29 : decode cX9_mingles 29 = .ok (.iload_n 3, 1) := by decide +kernel
theorem dX9_mingles_30 : decode cX9_mingles 30 = .ok (.bipush 6, 2) := by decide +kernel
theorem dX9_mingles_32 : decode cX9_mingles 32 = .ok (.iadd, 1) := by decide +kernel
theorem dX9_mingles_33 : decode cX9_mingles 33 = .ok (.iload 4, 2) := by decide +kernel
theorem dX9_mingles_35 : decode cX9_mingles 35 = .ok (.iadd, 1) := by decide +kernel
theorem dX9_mingles_36 : decode cX9_mingles 36 = .ok (.iaload, 1) := by decide +kernel
theorem dX9_mingles_37 : decode cX9_mingles 37 = .ok (.invokestatic 55, 3) := by decide +kernel
theorem dX9_mingles_40 : decode cX9_mingles 40 = .ok (.iinc 4 1, 3) := by decide +kernel
theorem dX9_mingles_43 : decode cX9_mingles 43 = .ok (.goto (-27), 3) := by decide +kernel
theorem dX9_mingles_46 : decode cX9_mingles 46 = .ok (.iconst 0, 1) := by decide +kernel
theorem dX9_mingles_47 : decode cX9_mingles 47 = .ok (.istore 4, 2) := by decide +kernel
theorem dX9_mingles_49 : decode cX9_mingles 49 = .ok (.iload 4, 2) := by decide +kernel
theorem dX9_mingles_51 : decode cX9_mingles 51 = .ok (.bipush 8, 2) := by decide +kernel
theorem dX9_mingles_53 : decode cX9_mingles 53 = .ok (.if_icmp .ge 25, 3) := by decide +kernel
theorem dX9_mingles_56 : decode cX9_mingles 56 = .ok (.aload_n 0, 1) := by decide +kernel
theorem dX9_mingles_57 : decode cX9_mingles 57 = .ok (.iload_n 1, 1) := by decide +kernel
theorem dX9_mingles_58 : decode cX9_mingles 58 = .ok (.iload 4, 2) := by decide +kernel
theorem dX9_mingles_60 : decode cX9_mingles 60 = .ok (.aload_n 2, 1) := by decide +kernel
theorem dX9_mingles_61 : decode cX9_mingles 61 = .ok (.iload_n 3, 1) := by decide +kernel
theorem dX9_mingles_62 : decode cX9_mingles 62 = .ok (.bipush 14, 2) := by decide +kernel
theorem dX9_mingles_64 : decode cX9_mingles 64 = .ok (.iadd, 1) := by decide +kernel
theorem dX9_mingles_65 : decode cX9_mingles 65 = .ok (.iload 4, 2) := by decide +kernel
theorem dX9_mingles_67 : decode cX9_mingles 67 = .ok (.iadd, 1) := by decide +kernel
theorem dX9_mingles_68 : decode cX9_mingles 68 = .ok (.iaload, 1) := by decide +kernel
theorem dX9_mingles_69 : decode cX9_mingles 69 = .ok (.invokestatic 63, 3) := by decide +kernel
theorem dX9_mingles_72 : decode cX9_mingles 72 = .ok (.iinc 4 1, 3) := by decide +kernel
theorem dX9_mingles_75 : decode cX9_mingles 75 = .ok (.goto (-26), 3) := by decide +kernel
theorem dX9_mingles_78 : decode cX9_mingles 78 = .ok (.return_, 1) := by decide +kernel
theorem dX9_areAlike_0 : decode cX9_areAlike 0 = .ok (.aload_n 0, 1) := by decide +kernel
theorem dX9_areAlike_1 : decode cX9_areAlike 1 = .ok (.getfield 7, 3) := by decide +kernel
theorem dX9_areAlike_4 : decode cX9_areAlike 4 = .ok (.bipush 23, 2) := by decide +kernel
theorem dX9_areAlike_6 : decode cX9_areAlike 6 = .ok (.iload_n 1, 1) := by decide +kernel
theorem dX9_areAlike_7 : decode cX9_areAlike 7 = .ok (.imul, 1) := by decide +kernel
theorem dX9_areAlike_8 : decode cX9_areAlike 8 = .ok (.iconst 0, 1) := by decide +kernel
theorem dX9_areAlike_9 : decode cX9_areAlike 9 = .ok (.iadd, 1) := by decide +kernel
theorem dX9_areAlike_10 : decode cX9_areAlike 10 = .ok (.iaload, 1) := by decide +kernel
theorem dX9_areAlike_11 : decode cX9_areAlike 11 = .ok (.aload_n 0, 1) := by decide +kernel
theorem dX9_areAlike_12 : decode cX9_areAlike 12 = .ok (.getfield 7, 3) := by decide +kernel
theorem dX9_areAlike_15 : decode cX9_areAlike 15 = .ok (.bipush 23, 2) := by decide +kernel
theorem dX9_areAlike_17 : decode cX9_areAlike 17 = .ok (.iload_n 2, 1) := by decide +kernel
theorem dX9_areAlike_18 : decode cX9_areAlike 18 = .ok (.imul, 1) := by decide +kernel
theorem dX9_areAlike_19 : decode cX9_areAlike 19 = .ok (.iconst 0, 1) := by decide +kernel
theorem dX9_areAlike_20 : decode cX9_areAlike 20 = .ok (.iadd, 1) := by decide +kernel
theorem dX9_areAlike_21 : decode cX9_areAlike 21 = .ok (.iaload, 1) := by decide +kernel
theorem dX9_areAlike_22 : decode cX9_areAlike 22 = .ok (.if_icmp .ne 32, 3) := by decide +kernel
theorem dX9_areAlike_25 : decode cX9_areAlike 25 = .ok (.aload_n 0, 1) := by decide +kernel
theorem dX9_areAlike_26 : decode cX9_areAlike 26 = .ok (.getfield 7, 3) := by decide +kernel
theorem dX9_areAlike_29 : decode cX9_areAlike 29 = .ok (.bipush 23, 2) := by decide +kernel
theorem dX9_areAlike_31 : decode cX9_areAlike 31 = .ok (.iload_n 1, 1) := by decide +kernel
theorem dX9_areAlike_32 : decode cX9_areAlike 32 = .ok (.imul, 1) := by decide +kernel
theorem dX9_areAlike_33 : decode cX9_areAlike 33 = .ok (.iconst 1, 1) := by decide +kernel
theorem dX9_areAlike_34 : decode cX9_areAlike 34 = .ok (.iadd, 1) := by decide +kernel
theorem dX9_areAlike_35 : decode cX9_areAlike 35 = .ok (.iaload, 1) := by decide +kernel
theorem dX9_areAlike_36 : decode cX9_areAlike 36 = .ok (.aload_n 0, 1) := by decide +kernel
theorem dX9_areAlike_37 : decode cX9_areAlike 37 = .ok (.getfield 7, 3) := by decide +kernel
theorem dX9_areAlike_40 : decode cX9_areAlike 40 = .ok (.bipush 23, 2) := by decide +kernel
theorem dX9_areAlike_42 : decode cX9_areAlike 42 = .ok (.iload_n 2, 1) := by decide +kernel
theorem dX9_areAlike_43 : decode cX9_areAlike 43 = .ok (.imul, 1) := by decide +kernel
theorem dX9_areAlike_44 : decode cX9_areAlike 44 = .ok (.iconst 1, 1) := by decide +kernel
theorem dX9_areAlike_45 : decode cX9_areAlike 45 = .ok (.iadd, 1) := by decide +kernel
theorem dX9_areAlike_46 : decode cX9_areAlike 46 = .ok (.iaload, 1) := by decide +kernel
theorem dX9_areAlike_47 : decode cX9_areAlike 47 = .ok (.if_icmp .ne 7, 3) := by decide +kernel
theorem dX9_areAlike_50 : decode cX9_areAlike 50 = .ok (.iconst 1, 1) := by decide +kernel
theorem dX9_areAlike_51 : decode cX9_areAlike 51 = .ok (.goto 4, 3) := by decide +kernel
theorem dX9_areAlike_54 : decode cX9_areAlike 54 = .ok (.iconst 0, 1) := by decide +kernel
theorem dX9_areAlike_55 : decode cX9_areAlike 55 = .ok (.ireturn, 1) := by decide +kernel
set_option maxRecDepth 20000 in
theorem dX9_mergesInto_0 : decode cX9_mergesInto 0 = .ok (.aload_n 0, 1) := by decide +kernel
theorem dX9_mergesInto_1 : decode cX9_mergesInto 1 = .ok (.iload_n 1, 1) := by decide +kernel
theorem dX9_mergesInto_2 : decode cX9_mergesInto 2 = .ok (.invokevirtual 116, 3) := by decide +kernel
theorem dX9_mergesInto_5 : decode cX9_mergesInto 5 = .ok (.ifCond .eq 16, 3) := by decide +kernel
theorem dX9_mergesInto_8 : decode cX9_mergesInto 8 = .ok (.aload_n 0, 1) := by decide +kernel
theorem dX9_mergesInto_9 : decode cX9_mergesInto 9 = .ok (.iload_n 2, 1) := by decide +kernel
theorem dX9_mergesInto_10 : decode cX9_mergesInto 10 = .ok (.invokevirtual 116, 3) := by decide +kernel
theorem dX9_mergesInto_13 : decode cX9_mergesInto 13 = .ok (.ifCond .eq 8, 3) := by decide +kernel
theorem dX9_mergesInto_16 : decode cX9_mergesInto 16 = .ok (.iload_n 1, 1) := by decide +kernel
theorem dX9_mergesInto_17 : decode cX9_mergesInto 17 = .ok (.iload_n 2, 1) := by decide +kernel
theorem dX9_mergesInto_18 : decode cX9_mergesInto 18 = .ok (.if_icmp .ne 5, 3) := by decide +kernel
theorem dX9_mergesInto_21 : decode cX9_mergesInto 21 = .ok (.iconst (-1), 1) := by decide +kernel
theorem dX9_mergesInto_22 : decode cX9_mergesInto 22 = .ok (.ireturn, 1) := by decide +kernel
theorem dX9_mergesInto_23 : decode cX9_mergesInto 23 = .ok (.aload_n 0, 1) := by decide +kernel
theorem dX9_mergesInto_24 : decode cX9_mergesInto 24 = .ok (.iload_n 1, 1) := by decide +kernel
theorem dX9_mergesInto_25 : decode cX9_mergesInto 25 = .ok (.iload_n 2, 1) := by decide +kernel
theorem dX9_mergesInto_26 : decode cX9_mergesInto 26 = .ok (.invokevirtual 127, 3) := by decide +kernel
theorem dX9_mergesInto_29 : decode cX9_mergesInto 29 = .ok (.ifCond .ne 6, 3) := by decide +kernel
theorem dX9_mergesInto_32 : decode cX9_mergesInto 32 = .ok (.bipush (-2), 2) := by decide +kernel
theorem dX9_mergesInto_34 : decode cX9_mergesInto 34 = .ok (.ireturn, 1) := by decide +kernel
theorem dX9_mergesInto_35 : decode cX9_mergesInto 35 = .ok (.aload_n 0, 1) := by decide +kernel
theorem dX9_mergesInto_36 : decode cX9_mergesInto 36 = .ok (.getfield 7, 3) := by decide +kernel
theorem dX9_mergesInto_39 : decode cX9_mergesInto 39 = .ok (.bipush 23, 2) := by decide +kernel
theorem dX9_mergesInto_41 : decode cX9_mergesInto 41 = .ok (.iload_n 1, 1) := by decide +kernel
theorem dX9_mergesInto_42 : decode cX9_mergesInto 42 = .ok (.imul, 1) := by decide +kernel
theorem dX9_mergesInto_43 : decode cX9_mergesInto 43 = .ok (.aload_n 0, 1) := by decide +kernel
theorem dX9_mergesInto_44 : decode cX9_mergesInto 44 = .ok (.getfield 7, 3) := by decide +kernel
theorem dX9_mergesInto_47 : decode cX9_mergesInto 47 = .ok (.bipush 23, 2) := by decide +kernel
theorem dX9_mergesInto_49 : decode cX9_mergesInto 49 = .ok (.iload_n 2, 1) := by decide +kernel
theorem dX9_mergesInto_50 : decode cX9_mergesInto 50 = .ok (.imul, 1) := by decide +kernel
theorem dX9_mergesInto_51 : decode cX9_mergesInto 51 = .ok (.invokestatic 131, 3) := by decide +kernel
theorem dX9_mergesInto_54 : decode cX9_mergesInto 54 = .ok (.aload_n 0, 1) := by decide +kernel
theorem dX9_mergesInto_55 : decode cX9_mergesInto 55 = .ok (.getfield 7, 3) := by decide +kernel
theorem dX9_mergesInto_58 : decode cX9_mergesInto 58 = .ok (.bipush 23, 2) := by decide +kernel
theorem dX9_mergesInto_60 : decode cX9_mergesInto 60 = .ok (.iload_n 1, 1) := by decide +kernel
theorem dX9_mergesInto_61 : decode cX9_mergesInto 61 = .ok (.imul, 1) := by decide +kernel
theorem dX9_mergesInto_62 : decode cX9_mergesInto 62 = .ok (.iconst 2, 1) := by decide +kernel
theorem dX9_mergesInto_63 : decode cX9_mergesInto 63 = .ok (.iadd, 1) := by decide +kernel
theorem dX9_mergesInto_64 : decode cX9_mergesInto 64 = .ok (.aload_n 0, 1) := by decide +kernel
theorem dX9_mergesInto_65 : decode cX9_mergesInto 65 = .ok (.aload_n 0, 1) := by decide +kernel
theorem dX9_mergesInto_66 : decode cX9_mergesInto 66 = .ok (.getfield 7, 3) := by decide +kernel
theorem dX9_mergesInto_69 : decode cX9_mergesInto 69 = .ok (.bipush 23, 2) := by decide +kernel
theorem dX9_mergesInto_71 : decode cX9_mergesInto 71 = .ok (.iload_n 1, 1) := by decide +kernel
theorem dX9_mergesInto_72 : decode cX9_mergesInto 72 = .ok (.imul, 1) := by decide +kernel
theorem dX9_mergesInto_73 : decode cX9_mergesInto 73 = .ok (.iconst 2, 1) := by decide +kernel
theorem dX9_mergesInto_74 : decode cX9_mergesInto 74 = .ok (.iadd, 1) := by decide +kernel
theorem dX9_mergesInto_75 : decode cX9_mergesInto 75 = .ok (.iaload, 1) := by decide +kernel
theorem dX9_mergesInto_76 : decode cX9_mergesInto 76 = .ok (.aload_n 0, 1) := by decide +kernel
theorem dX9_mergesInto_77 : decode cX9_mergesInto 77 = .ok (.getfield 7, 3) := by decide +kernel
theorem dX9_mergesInto_80 : decode cX9_mergesInto 80 = .ok (.bipush 23, 2) := by decide +kernel
theorem dX9_mergesInto_82 : decode cX9_mergesInto 82 = .ok (.iload_n 2, 1) := by decide +kernel
theorem dX9_mergesInto_83 : decode cX9_mergesInto 83 = .ok (.imul, 1) := by decide +kernel
theorem dX9_mergesInto_84 : decode cX9_mergesInto 84 = .ok (.iconst 2, 1) := by decide +kernel
theorem dX9_mergesInto_85 : decode cX9_mergesInto 85 = .ok (.iadd, 1) := by decide +kernel
theorem dX9_mergesInto_86 : decode cX9_mergesInto 86 = .ok (.iaload, 1) := by decide +kernel
theorem dX9_mergesInto_87 : decode cX9_mergesInto 87 = .ok (.invokevirtual 113, 3) := by decide +kernel
theorem dX9_mergesInto_90 : decode cX9_mergesInto 90 = .ok (.iastore, 1) := by decide +kernel
theorem dX9_mergesInto_91 : decode cX9_mergesInto 91 = .ok (.iconst 0, 1) := by decide +kernel
theorem dX9_mergesInto_92 : decode cX9_mergesInto 92 = .ok (.istore_n 3, 1) := by decide +kernel
theorem dX9_mergesInto_93 : decode cX9_mergesInto 93 = .ok (.iload_n 3, 1) := by decide +kernel
theorem dX9_mergesInto_94 : decode cX9_mergesInto 94 = .ok (.sipush 1000, 3) := by decide +kernel
theorem dX9_mergesInto_97 : decode cX9_mergesInto 97 = .ok (.if_icmp .ge 115, 3) := by decide +kernel
theorem dX9_mergesInto_100 : decode cX9_mergesInto 100 = .ok (.aload_n 0, 1) := by decide +kernel
theorem dX9_mergesInto_101 : decode cX9_mergesInto 101 = .ok (.getfield 7, 3) := by decide +kernel
theorem dX9_mergesInto_104 : decode cX9_mergesInto 104 = .ok (.sipush 165, 3) := by decide +kernel
theorem dX9_mergesInto_107 : decode cX9_mergesInto 107 = .ok (.sipush 1000, 3) := by decide +kernel
theorem dX9_mergesInto_110 : decode cX9_mergesInto 110 = .ok (.iload_n 2, 1) := by decide +kernel
theorem dX9_mergesInto_111 : decode cX9_mergesInto 111 = .ok (.imul, 1) := by decide +kernel
theorem dX9_mergesInto_112 : decode cX9_mergesInto 112 = .ok (.iadd, 1) := by decide +kernel
theorem dX9_mergesInto_113 : decode cX9_mergesInto 113 = .ok (.iload_n 3, 1) := by decide +kernel
theorem dX9_mergesInto_114 : decode cX9_mergesInto 114 = .ok (.iadd, 1) := by decide +kernel
theorem dX9_mergesInto_115 : decode cX9_mergesInto 115 = .ok (.iaload, 1) := by decide +kernel
theorem dX9_mergesInto_116 : decode cX9_mergesInto 116 = .ok (.istore 4, 2) := by decide +kernel
theorem dX9_mergesInto_118 : decode cX9_mergesInto 118 = .ok (.aload_n 0, 1) := by decide +kernel
theorem dX9_mergesInto_119 : decode cX9_mergesInto 119 = .ok (.getfield 7, 3) := by decide +kernel
theorem dX9_mergesInto_122 : decode cX9_mergesInto 122 = .ok (.sipush 165, 3) := by decide +kernel
theorem dX9_mergesInto_125 : decode cX9_mergesInto 125 = .ok (.sipush 1000, 3) := by decide +kernel
theorem dX9_mergesInto_128 : decode cX9_mergesInto 128 = .ok (.iload_n 1, 1) := by decide +kernel
theorem dX9_mergesInto_129 : decode cX9_mergesInto 129 = .ok (.imul, 1) := by decide +kernel
theorem dX9_mergesInto_130 : decode cX9_mergesInto 130 = .ok (.iadd, 1) := by decide +kernel
theorem dX9_mergesInto_131 : decode cX9_mergesInto 131 = .ok (.iload_n 3, 1) := by decide +kernel
theorem dX9_mergesInto_132 : decode cX9_mergesInto 132 = .ok (.iadd, 1) := by decide +kernel
theorem dX9_mergesInto_133 : decode cX9_mergesInto 133 = .ok (.iaload, 1) := by decide +kernel
theorem dX9_mergesInto_134 : decode cX9_mergesInto 134 = .ok (.istore 5, 2) := by decide +kernel
theorem dX9_mergesInto_136 : decode cX9_mergesInto 136 = .ok (.aload_n 0, 1) := by decide +kernel
theorem dX9_mergesInto_137 : decode cX9_mergesInto 137 = .ok (.getfield 7, 3) := by decide +kernel
theorem dX9_mergesInto_140 : decode cX9_mergesInto 140 = .ok (.bipush 23, 2) := by decide +kernel
theorem dX9_mergesInto_142 : decode cX9_mergesInto 142 = .ok (.iload_n 1, 1) := by decide +kernel
theorem dX9_mergesInto_143 : decode cX9_mergesInto 143 = .ok (.imul, 1) := by decide +kernel
theorem dX9_mergesInto_144 : decode cX9_mergesInto 144 = .ok (.bipush 22, 2) := by decide +kernel
theorem dX9_mergesInto_146 : decode cX9_mergesInto 146 = .ok (.iadd, 1) := by decide +kernel
theorem dX9_mergesInto_147 : decode cX9_mergesInto 147 = .ok (.dup2, 1) := by decide +kernel
theorem dX9_mergesInto_148 : decode cX9_mergesInto 148 = .ok (.iaload, 1) := by decide +kernel
theorem dX9_mergesInto_149 : decode cX9_mergesInto 149 = .ok (.iload 5, 2) := by decide +kernel
theorem dX9_mergesInto_151 : decode cX9_mergesInto 151 = .ok (.ifCond .ne 12, 3) := by decide +kernel
theorem dX9_mergesInto_154 : decode cX9_mergesInto 154 = .ok (.iload 4, 2) := by decide +kernel
theorem dX9_mergesInto_156 : decode cX9_mergesInto 156 = .ok (.ifCond .le 7, 3) := by decide +kernel
theorem dX9_mergesInto_159 : decode cX9_mergesInto 159 = .ok (.iconst 1, 1) := by decide +kernel
theorem dX9_mergesInto_160 : decode cX9_mergesInto 160 = .ok (.goto 4, 3) := by decide +kernel
theorem dX9_mergesInto_163 : decode cX9_mergesInto 163 = .ok (.iconst 0, 1) := by decide +kernel
theorem dX9_mergesInto_164 : decode cX9_mergesInto 164 = .ok (.iadd, 1) := by decide +kernel
theorem dX9_mergesInto_165 : decode cX9_mergesInto 165 = .ok (.iastore, 1) := by decide +kernel
theorem dX9_mergesInto_166 : decode cX9_mergesInto 166 = .ok (.aload_n 0, 1) := by decide +kernel
theorem dX9_mergesInto_167 : decode cX9_mergesInto 167 = .ok (.getfield 7, 3) := by decide +kernel
theorem dX9_mergesInto_170 : decode cX9_mergesInto 170 = .ok (.sipush 165, 3) := by decide +kernel
theorem dX9_mergesInto_173 : decode cX9_mergesInto 173 = .ok (.sipush 1000, 3) := by decide +kernel
theorem dX9_mergesInto_176 : decode cX9_mergesInto 176 = .ok (.iload_n 1, 1) := by decide +kernel
theorem dX9_mergesInto_177 : decode cX9_mergesInto 177 = .ok (.imul, 1) := by decide +kernel
theorem dX9_mergesInto_178 : decode cX9_mergesInto 178 = .ok (.iadd, 1) := by decide +kernel
theorem dX9_mergesInto_179 : decode cX9_mergesInto 179 = .ok (.iload_n 3, 1) := by decide +kernel
theorem dX9_mergesInto_180 : decode cX9_mergesInto 180 = .ok (.iadd, 1) := by decide +kernel
theorem dX9_mergesInto_181 : decode cX9_mergesInto 181 = .ok (.iload 5, 2) := by decide +kernel
theorem dX9_mergesInto_183 : decode cX9_mergesInto 183 = .ok (.ifCond .eq 15, 3) := by decide +kernel
theorem dX9_mergesInto_186 : decode cX9_mergesInto 186 = .ok (.iload 4, 2) := by decide +kernel
theorem dX9_mergesInto_188 : decode cX9_mergesInto 188 = .ok (.ifCond .le 15, 3) := by decide +kernel
theorem dX9_mergesInto_191 : decode cX9_mergesInto 191 = .ok (.iload 4, 2) := by decide +kernel
