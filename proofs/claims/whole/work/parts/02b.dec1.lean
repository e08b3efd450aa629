theorem dX3_high_4 : decode cX3_high 4 = .ok (.sipush 1000, 3) := by decide +kernel
theorem dX3_high_7 : decode cX3_high 7 = .ok (.invokestatic 51, 3) := by decide +kernel
theorem dX3_high_10 : decode cX3_high 10 = .ok (.ireturn, 1) := by decide +kernel
set_option maxRecDepth 20000 in
theorem dX3_rough_0 : decode cX3_rough 0 = .ok (.aload_n 0, 1) := by decide +kernel
theorem dX3_rough_1 : decode cX3_rough 1 = .ok (.getfield 18, 3) := by decide +kernel
theorem dX3_rough_4 : decode cX3_rough 4 = .ok (.ifCond .ne 19, 3) := by decide +kernel
theorem dX3_rough_7 : decode cX3_rough 7 = .ok (.bipush 32, 2) := by decide +kernel
theorem dX3_rough_9 : decode cX3_rough 9 = .ok (.bipush 32, 2) := by decide +kernel
theorem dX3_rough_11 : decode cX3_rough 11 = .ok (.aload_n 0, 1) := by decide +kernel
theorem dX3_rough_12 : decode cX3_rough 12 = .ok (.getfield 28, 3) := by decide +kernel
theorem dX3_rough_15 : decode cX3_rough 15 = .ok (.invokestatic 84, 3) := by decide +kernel
theorem dX3_rough_18 : decode cX3_rough 18 = .ok (.isub, 1) := by decide +kernel
theorem dX3_rough_19 : decode cX3_rough 19 = .ok (.invokestatic 93, 3) := by decide +kernel
theorem dX3_rough_22 : decode cX3_rough 22 = .ok (.ireturn, 1) := by decide +kernel
theorem dX3_rough_23 : decode cX3_rough 23 = .ok (.aload_n 0, 1) := by decide +kernel
theorem dX3_rough_24 : decode cX3_rough 24 = .ok (.getfield 18, 3) := by decide +kernel
theorem dX3_rough_27 : decode cX3_rough 27 = .ok (.iconst 1, 1) := by decide +kernel
theorem dX3_rough_28 : decode cX3_rough 28 = .ok (.if_icmp .ne 8, 3) := by decide +kernel
theorem dX3_rough_31 : decode cX3_rough 31 = .ok (.aload_n 0, 1) := by decide +kernel
theorem dX3_rough_32 : decode cX3_rough 32 = .ok (.invokevirtual 96, 3) := by decide +kernel
theorem dX3_rough_35 : decode cX3_rough 35 = .ok (.ireturn, 1) := by decide +kernel
theorem dX3_rough_36 : decode cX3_rough 36 = .ok (.bipush 8, 2) := by decide +kernel
theorem dX3_rough_38 : decode cX3_rough 38 = .ok (.aload_n 0, 1) := by decide +kernel
theorem dX3_rough_39 : decode cX3_rough 39 = .ok (.invokevirtual 89, 3) := by decide +kernel
theorem dX3_rough_42 : decode cX3_rough 42 = .ok (.isub, 1) := by decide +kernel
theorem dX3_rough_43 : decode cX3_rough 43 = .ok (.istore_n 1, 1) := by decide +kernel
theorem dX3_rough_44 : decode cX3_rough 44 = .ok (.iload_n 1, 1) := by decide +kernel
theorem dX3_rough_45 : decode cX3_rough 45 = .ok (.ifCond .le 12, 3) := by decide +kernel
theorem dX3_rough_48 : decode cX3_rough 48 = .ok (.bipush 8, 2) := by decide +kernel
theorem dX3_rough_50 : decode cX3_rough 50 = .ok (.iload_n 1, 1) := by decide +kernel
theorem dX3_rough_51 : decode cX3_rough 51 = .ok (.invokestatic 93, 3) := by decide +kernel
theorem dX3_rough_54 : decode cX3_rough 54 = .ok (.goto 7, 3) := by decide +kernel
theorem dX3_rough_57 : decode cX3_rough 57 = .ok (.aload_n 0, 1) := by decide +kernel
theorem dX3_rough_58 : decode cX3_rough 58 = .ok (.invokevirtual 99, 3) := by decide +kernel
theorem dX3_rough_61 : decode cX3_rough 61 = .ok (.ireturn, 1) := by decide +kernel
theorem dX3_roughByHashes_0 : decode cX3_roughByHashes 0 = .ok (.aload_n 0, 1) := by decide +kernel
theorem dX3_roughByHashes_1 : decode cX3_roughByHashes 1 = .ok (.getfield 9, 3) := by decide +kernel
theorem dX3_roughByHashes_4 : decode cX3_roughByHashes 4 = .ok (.bipush 7, 2) := by decide +kernel
theorem dX3_roughByHashes_6 : decode cX3_roughByHashes 6 = .ok (.iaload, 1) := by decide +kernel
theorem dX3_roughByHashes_7 : decode cX3_roughByHashes 7 = .ok (.iconst 1, 1) := by decide +kernel
theorem dX3_roughByHashes_8 : decode cX3_roughByHashes 8 = .ok (.iadd, 1) := by decide +kernel
theorem dX3_roughByHashes_9 : decode cX3_roughByHashes 9 = .ok (.istore_n 1, 1) := by decide +kernel
theorem dX3_roughByHashes_10 : decode cX3_roughByHashes 10 = .ok (.aload_n 0, 1) := by decide +kernel
theorem dX3_roughByHashes_11 : decode cX3_roughByHashes 11 = .ok (.getfield 31, 3) := by decide +kernel
theorem dX3_roughByHashes_14 : decode cX3_roughByHashes 14 = .ok (.bipush 8, 2) := by decide +kernel
theorem dX3_roughByHashes_16 : decode cX3_roughByHashes 16 = .ok (.if_icmp .lt 7, 3) := by decide +kernel
theorem dX3_roughByHashes_19 : decode cX3_roughByHashes 19 = .ok (.iload_n 1, 1) := by decide +kernel
theorem dX3_roughByHashes_20 : decode cX3_roughByHashes 20 = .ok (.ifCond .gt 10, 3) := by decide +kernel
theorem dX3_roughByHashes_23 : decode cX3_roughByHashes 23 = .ok (.aload_n 0, 1) := by decide +kernel
theorem dX3_roughByHashes_24 : decode cX3_roughByHashes 24 = .ok (.getfield 31, 3) := by decide +kernel
theorem dX3_roughByHashes_27 : decode cX3_roughByHashes 27 = .ok (.goto 7, 3) := by decide +kernel
theorem dX3_roughByHashes_30 : decode cX3_roughByHashes 30 = .ok (.ldc 102, 2) := by decide +kernel
theorem dX3_roughByHashes_32 : decode cX3_roughByHashes 32 = .ok (.iload_n 1, 1) := by decide +kernel
theorem dX3_roughByHashes_33 : decode cX3_roughByHashes 33 = .ok (.idiv, 1) := by decide +kernel
theorem dX3_roughByHashes_34 : decode cX3_roughByHashes 34 = .ok (.ireturn, 1) := by decide +kernel
theorem dX3_roughByRanks_0 : decode cX3_roughByRanks 0 = .ok (.iconst 0, 1) := by decide +kernel
theorem dX3_roughByRanks_1 : decode cX3_roughByRanks 1 = .ok (.istore_n 1, 1) := by decide +kernel
theorem dX3_roughByRanks_2 : decode cX3_roughByRanks 2 = .ok (.aload_n 0, 1) := by decide +kernel
theorem dX3_roughByRanks_3 : decode cX3_roughByRanks 3 = .ok (.getfield 15, 3) := by decide +kernel
theorem dX3_roughByRanks_6 : decode cX3_roughByRanks 6 = .ok (.astore_n 2, 1) := by decide +kernel
theorem dX3_roughByRanks_7 : decode cX3_roughByRanks 7 = .ok (.aload_n 2, 1) := by decide +kernel
theorem dX3_roughByRanks_8 : decode cX3_roughByRanks 8 = .ok (.arraylength, 1) := by decide +kernel
theorem dX3_roughByRanks_9 : decode cX3_roughByRanks 9 = .ok (.istore_n 3, 1) := by decide +kernel
theorem dX3_roughByRanks_10 : decode cX3_roughByRanks 10 = .ok (.iconst 0, 1) := by decide +kernel
theorem dX3_roughByRanks_11 : decode cX3_roughByRanks 11 = .ok (.istore 4, 2) := by decide +kernel
theorem dX3_roughByRanks_13 : decode cX3_roughByRanks 13 = .ok (.iload 4, 2) := by decide +kernel
theorem dX3_roughByRanks_15 : decode cX3_roughByRanks 15 = .ok (.iload_n 3, 1) := by decide +kernel
theorem dX3_roughByRanks_16 : decode cX3_roughByRanks 16 = .ok (.if_icmp .ge 25, 3) := by decide +kernel
theorem dX3_roughByRanks_19 : decode cX3_roughByRanks 19 = .ok (.aload_n 2, 1) := by decide +kernel
theorem dX3_roughByRanks_20 : decode cX3_roughByRanks 20 = .ok (.iload 4, 2) := by decide +kernel
theorem dX3_roughByRanks_22 : decode cX3_roughByRanks 22 = .ok (.iaload, 1) := by decide +kernel
theorem dX3_roughByRanks_23 : decode cX3_roughByRanks 23 = .ok (.istore 5, 2) := by decide +kernel
theorem dX3_roughByRanks_25 : decode cX3_roughByRanks 25 = .ok (.iload_n 1, 1) := by decide +kernel
theorem dX3_roughByRanks_26 : decode cX3_roughByRanks 26 = .ok (.iconst 1, 1) := by decide +kernel
theorem dX3_roughByRanks_27 : decode cX3_roughByRanks 27 = .ok (.bipush 14, 2) := by decide +kernel
theorem dX3_roughByRanks_29 : decode cX3_roughByRanks 29 = .ok (.iload 5, 2) := by decide +kernel
theorem dX3_roughByRanks_31 : decode cX3_roughByRanks 31 = .ok (.isub, 1) := by decide +kernel
theorem dX3_roughByRanks_32 : decode cX3_roughByRanks 32 = .ok (.ishl, 1) := by decide +kernel
theorem dX3_roughByRanks_33 : decode cX3_roughByRanks 33 = .ok (.iadd, 1) := by decide +kernel
theorem dX3_roughByRanks_34 : decode cX3_roughByRanks 34 = .ok (.istore_n 1, 1) := by decide +kernel
theorem dX3_roughByRanks_35 : decode cX3_roughByRanks 35 = .ok (.iinc 4 1, 3) := by decide +kernel
theorem dX3_roughByRanks_38 : decode cX3_roughByRanks 38 = .ok (.goto (-25), 3) := by decide +kernel
theorem dX3_roughByRanks_41 : decode cX3_roughByRanks 41 = .ok (.iload_n 1, 1) := by decide +kernel
theorem dX3_roughByRanks_42 : decode cX3_roughByRanks 42 = .ok (.ifCond .le 10, 3) := by decide +kernel
theorem dX3_roughByRanks_45 : decode cX3_roughByRanks 45 = .ok (.ldc 103, 2) := by decide +kernel
theorem dX3_roughByRanks_47 : decode cX3_roughByRanks 47 = .ok (.iload_n 1, 1) := by decide +kernel
theorem dX3_roughByRanks_48 : decode cX3_roughByRanks 48 = .ok (.idiv, 1) := by decide +kernel
theorem dX3_roughByRanks_49 : decode cX3_roughByRanks 49 = .ok (.goto 4, 3) := by decide +kernel
theorem dX3_roughByRanks_52 : decode cX3_roughByRanks 52 = .ok (.iconst 0, 1) := by decide +kernel
theorem dX3_roughByRanks_53 : decode cX3_roughByRanks 53 = .ok (.ireturn, 1) := by decide +kernel
set_option maxRecDepth 20000 in
theorem dX3_told_0 : decode cX3_told 0 = .ok (.aload_n 0, 1) := by decide +kernel
theorem dX3_told_1 : decode cX3_told 1 = .ok (.invokevirtual 104, 3) := by decide +kernel
theorem dX3_told_4 : decode cX3_told 4 = .ok (.aload_n 0, 1) := by decide +kernel
theorem dX3_told_5 : decode cX3_told 5 = .ok (.invokevirtual 107, 3) := by decide +kernel
theorem dX3_told_8 : decode cX3_told 8 = .ok (.aload_n 0, 1) := by decide +kernel
theorem dX3_told_9 : decode cX3_told 9 = .ok (.invokevirtual 110, 3) := by decide +kernel
theorem dX3_told_12 : decode cX3_told 12 = .ok (.invokestatic 51, 3) := by decide +kernel
theorem dX3_told_15 : decode cX3_told 15 = .ok (.invokestatic 81, 3) := by decide +kernel
theorem dX3_told_18 : decode cX3_told 18 = .ok (.ireturn, 1) := by decide +kernel
theorem dX3_partAt_0 : decode cX3_partAt 0 = .ok (.iload_n 1, 1) := by decide +kernel
theorem dX3_partAt_1 : decode cX3_partAt 1 = .ok (.ifCond .ge 5, 3) := by decide +kernel
theorem dX3_partAt_4 : decode cX3_partAt 4 = .ok (.iconst (-1), 1) := by decide +kernel
theorem dX3_partAt_5 : decode cX3_partAt 5 = .ok (.ireturn, 1) := by decide +kernel
theorem dX3_partAt_6 : decode cX3_partAt 6 = .ok (.aload_n 0, 1) := by decide +kernel
theorem dX3_partAt_7 : decode cX3_partAt 7 = .ok (.getfield 18, 3) := by decide +kernel
theorem dX3_partAt_10 : decode cX3_partAt 10 = .ok (.ifCond .ne 22, 3) := by decide +kernel
theorem dX3_partAt_13 : decode cX3_partAt 13 = .ok (.iload_n 1, 1) := by decide +kernel
theorem dX3_partAt_14 : decode cX3_partAt 14 = .ok (.bipush 32, 2) := by decide +kernel
theorem dX3_partAt_16 : decode cX3_partAt 16 = .ok (.if_icmp .ge 14, 3) := by decide +kernel
theorem dX3_partAt_19 : decode cX3_partAt 19 = .ok (.aload_n 0, 1) := by decide +kernel
theorem dX3_partAt_20 : decode cX3_partAt 20 = .ok (.getfield 28, 3) := by decide +kernel
theorem dX3_partAt_23 : decode cX3_partAt 23 = .ok (.iload_n 1, 1) := by decide +kernel
theorem dX3_partAt_24 : decode cX3_partAt 24 = .ok (.iushr, 1) := by decide +kernel
theorem dX3_partAt_25 : decode cX3_partAt 25 = .ok (.iconst 1, 1) := by decide +kernel
theorem dX3_partAt_26 : decode cX3_partAt 26 = .ok (.iand, 1) := by decide +kernel
theorem dX3_partAt_27 : decode cX3_partAt 27 = .ok (.goto 4, 3) := by decide +kernel
theorem dX3_partAt_30 : decode cX3_partAt 30 = .ok (.iconst (-1), 1) := by decide +kernel
theorem dX3_partAt_31 : decode cX3_partAt 31 = .ok (.ireturn, 1) := by decide +kernel
theorem dX3_partAt_32 : decode cX3_partAt 32 = .ok (.aload_n 0, 1) := by decide +kernel
theorem dX3_partAt_33 : decode cX3_partAt 33 = .ok (.getfield 18, 3) := by decide +kernel
theorem dX3_partAt_36 : decode cX3_partAt 36 = .ok (.iconst 1, 1) := by decide +kernel
theorem dX3_partAt_37 : decode cX3_partAt 37 = .ok (.if_icmp .ne 29, 3) := by decide +kernel
theorem dX3_partAt_40 : decode cX3_partAt 40 = .ok (.iload_n 1, 1) := by decide +kernel
theorem dX3_partAt_41 : decode cX3_partAt 41 = .ok (.aload_n 0, 1) := by decide +kernel
theorem dX3_partAt_42 : decode cX3_partAt 42 = .ok (.getfield 31, 3) := by decide +kernel
theorem dX3_partAt_45 : decode cX3_partAt 45 = .ok (.if_icmp .ge 18, 3) := by decide +kernel
theorem dX3_partAt_48 : decode cX3_partAt 48 = .ok (.iload_n 1, 1) := by decide +kernel
theorem dX3_partAt_49 : decode cX3_partAt 49 = .ok (.bipush 8, 2) := by decide +kernel
theorem dX3_partAt_51 : decode cX3_partAt 51 = .ok (.if_icmp .ge 12, 3) := by decide +kernel
theorem dX3_partAt_54 : decode cX3_partAt 54 = .ok (.aload_n 0, 1) := by decide +kernel
theorem dX3_partAt_55 : decode cX3_partAt 55 = .ok (.getfield 9, 3) := by decide +kernel
theorem dX3_partAt_58 : decode cX3_partAt 58 = .ok (.iload_n 1, 1) := by decide +kernel
theorem dX3_partAt_59 : decode cX3_partAt 59 = .ok (.iaload, 1) := by decide +kernel
theorem dX3_partAt_60 : decode cX3_partAt 60 = .ok (.goto 5, 3) := by decide +kernel
theorem dX3_partAt_63 : decode cX3_partAt 63 = .ok (.bipush (-4), 2) := by decide +kernel
theorem dX3_partAt_65 : decode cX3_partAt 65 = .ok (.ireturn, 1) := by decide +kernel
theorem dX3_partAt_66 : decode cX3_partAt 66 = .ok (.iload_n 1, 1) := by decide +kernel
theorem dX3_partAt_67 : decode cX3_partAt 67 = .ok (.bipush 8, 2) := by decide +kernel
theorem dX3_partAt_69 : decode cX3_partAt 69 = .ok (.if_icmp .ge 12, 3) := by decide +kernel
theorem dX3_partAt_72 : decode cX3_partAt 72 = .ok (.aload_n 0, 1) := by decide +kernel
theorem dX3_partAt_73 : decode cX3_partAt 73 = .ok (.getfield 15, 3) := by decide +kernel
theorem dX3_partAt_76 : decode cX3_partAt 76 = .ok (.iload_n 1, 1) := by decide +kernel
theorem dX3_partAt_77 : decode cX3_partAt 77 = .ok (.iaload, 1) := by decide +kernel
theorem dX3_partAt_78 : decode cX3_partAt 78 = .ok (.goto 4, 3) := by decide +kernel
theorem dX3_partAt_81 : decode cX3_partAt 81 = .ok (.iconst (-1), 1) := by decide +kernel
theorem dX3_partAt_82 : decode cX3_partAt 82 = .ok (.ireturn, 1) := by decide +kernel
set_option maxRecDepth 20000 in
theorem dX4_init_0 : decode cX4_init 0 = .ok (.aload_n 0, 1) := by decide +kernel
theorem dX4_init_1 : decode cX4_init 1 = .ok (.invokespecial 3, 3) := by decide +kernel
theorem dX4_init_4 : decode cX4_init 4 = .ok (.aload_n 0, 1) := by decide +kernel
theorem dX4_init_5 : decode cX4_init 5 = .ok (.bipush 6, 2) := by decide +kernel
theorem dX4_init_7 : decode cX4_init 7 = .ok (.anewarray 9, 3) := by decide +kernel
theorem dX4_init_10 : decode cX4_init 10 = .ok (.putfield 11, 3) := by decide +kernel
theorem dX4_init_13 : decode cX4_init 13 = .ok (.aload_n 0, 1) := by decide +kernel
theorem dX4_init_14 : decode cX4_init 14 = .ok (.new 17, 3) := by decide +kernel
theorem dX4_init_17 : decode cX4_init 17 = .ok (.dup, 1) := by decide +kernel
theorem dX4_init_18 : decode cX4_init 18 = .ok (.invokespecial 19, 3) := by decide +kernel
theorem dX4_init_21 : decode cX4_init 21 = .ok (.putfield 20, 3) := by decide +kernel
theorem dX4_init_24 : decode cX4_init 24 = .ok (.iconst 0, 1) := by decide +kernel
theorem dX4_init_25 : decode cX4_init 25 = .ok (.istore_n 1, 1) := by decide +kernel
theorem dX4_init_26 : decode cX4_init 26 = .ok (.iload_n 1, 1) := by decide +kernel
theorem dX4_init_27 : decode cX4_init 27 = .ok (.bipush 6, 2) := by decide +kernel
theorem dX4_init_29 : decode cX4_init 29 = .ok (.if_icmp .ge 22, 3) := by decide +kernel
theorem dX4_init_32 : decode cX4_init 32 = .ok (.aload_n 0, 1) := by decide +kernel
theorem dX4_init_33 : decode cX4_init 33 = .ok (.getfield 11, 3) := by decide +kernel
theorem dX4_init_36 : decode cX4_init 36 = .ok (.iload_n 1, 1) := by decide +kernel
theorem dX4_init_37 : decode cX4_init 37 = .ok (.new 9, 3) := by decide +kernel
theorem dX4_init_40 : decode cX4_init 40 = .ok (.dup, 1) := by decide +kernel
theorem dX4_init_41 : decode cX4_init 41 = .ok (.invokespecial 24, 3) := by decide +kernel
theorem dX4_init_44 : decode cX4_init 44 = .ok (.aastore, 1) := by decide +kernel
theorem dX4_init_45 : decode cX4_init 45 = .ok (.iinc 1 1, 3) := by decide +kernel
theorem dX4_init_48 : decode cX4_init 48 = .ok (.goto (-22), 3) := by decide +kernel
theorem dX4_init_51 : decode cX4_init 51 = .ok (.return_, 1) := by decide +kernel
theorem dX4_find_0 : decode cX4_find 0 = .ok (.iload_n 1, 1) := by decide +kernel
theorem dX4_find_1 : decode cX4_find 1 = .ok (.ifCond .lt 26, 3) := by decide +kernel
theorem dX4_find_4 : decode cX4_find 4 = .ok (.iload_n 1, 1) := by decide +kernel
theorem dX4_find_5 : decode cX4_find 5 = .ok (.aload_n 0, 1) := by decide +kernel
theorem dX4_find_6 : decode cX4_find 6 = .ok (.getfield 25, 3) := by decide +kernel
theorem dX4_find_9 : decode cX4_find 9 = .ok (.if_icmp .ge 18, 3) := by decide +kernel
theorem dX4_find_12 : decode cX4_find 12 = .ok (.iload_n 1, 1) := by decide +kernel
theorem dX4_find_13 : decode cX4_find 13 = .ok (.bipush 6, 2) := by decide +kernel
theorem dX4_find_15 : decode cX4_find 15 = .ok (.if_icmp .ge 12, 3) := by decide +kernel
theorem dX4_find_18 : decode cX4_find 18 = .ok (.aload_n 0, 1) := by decide +kernel
theorem dX4_find_19 : decode cX4_find 19 = .ok (.getfield 11, 3) := by decide +kernel
theorem dX4_find_22 : decode cX4_find 22 = .ok (.iload_n 1, 1) := by decide +kernel
theorem dX4_find_23 : decode cX4_find 23 = .ok (.aaload, 1) := by decide +kernel
theorem dX4_find_24 : decode cX4_find 24 = .ok (.goto 4, 3) := by decide +kernel
theorem dX4_find_27 : decode cX4_find 27 = .ok (.aconst_null, 1) := by decide +kernel
theorem dX4_find_28 : decode cX4_find 28 = .ok (.areturn, 1) := by decide +kernel
set_option maxRecDepth 20000 in
theorem dX4_copyFrom_0 : decode cX4_copyFrom 0 = .ok (.aload_n 0, 1) := by decide +kernel
theorem dX4_copyFrom_1 : decode cX4_copyFrom 1 = .ok (.aload_n 1, 1) := by decide +kernel
theorem dX4_copyFrom_2 : decode cX4_copyFrom 2 = .ok (.getfield 25, 3) := by decide +kernel
theorem dX4_copyFrom_5 : decode cX4_copyFrom 5 = .ok (.putfield 25, 3) := by decide +kernel
theorem dX4_copyFrom_8 : decode cX4_copyFrom 8 = .ok (.aload_n 0, 1) := by decide +kernel
theorem dX4_copyFrom_9 : decode cX4_copyFrom 9 = .ok (.aload_n 1, 1) := by decide +kernel
theorem dX4_copyFrom_10 : decode cX4_copyFrom 10 = .ok (.getfield 29, 3) := by decide +kernel
theorem dX4_copyFrom_13 : decode cX4_copyFrom 13 = .ok (.putfield 29, 3) := by decide +kernel
theorem dX4_copyFrom_16 : decode cX4_copyFrom 16 = .ok (.aload_n 0, 1) := by decide +kernel
theorem dX4_copyFrom_17 : decode cX4_copyFrom 17 = .ok (.getfield 20, 3) := by decide +kernel
theorem dX4_copyFrom_20 : decode cX4_copyFrom 20 = .ok (.aload_n 1, 1) := by decide +kernel
theorem dX4_copyFrom_21 : decode cX4_copyFrom 21 = .ok (.getfield 20, 3) := by decide +kernel
theorem dX4_copyFrom_24 : decode cX4_copyFrom 24 = .ok (.invokevirtual 32, 3) := by decide +kernel
theorem dX4_copyFrom_27 : decode cX4_copyFrom 27 = .ok (.iconst 0, 1) := by decide +kernel
theorem dX4_copyFrom_28 : decode cX4_copyFrom 28 = .ok (.istore_n 2, 1) := by decide +kernel
theorem dX4_copyFrom_29 : decode cX4_copyFrom 29 = .ok (.iload_n 2, 1) := by decide +kernel
theorem dX4_copyFrom_30 : decode cX4_copyFrom 30 = .ok (.bipush 6, 2) := by decide +kernel
theorem dX4_copyFrom_32 : decode cX4_copyFrom 32 = .ok (.if_icmp .ge 37, 3) := by decide +kernel
theorem dX4_copyFrom_35 : decode cX4_copyFrom 35 = .ok (.aload_n 1, 1) := by decide +kernel
theorem dX4_copyFrom_36 : decode cX4_copyFrom 36 = .ok (.iload_n 2, 1) := by decide +kernel
theorem dX4_copyFrom_37 : decode cX4_copyFrom 37 = .ok (.invokevirtual 36, 3) := by decide +kernel
theorem dX4_copyFrom_40 : decode cX4_copyFrom 40 = .ok (.astore_n 3, 1) := by decide +kernel
theorem dX4_copyFrom_41 : decode cX4_copyFrom 41 = .ok (.aload_n 0, 1) := by decide +kernel
theorem dX4_copyFrom_42 : decode cX4_copyFrom 42 = .ok (.iload_n 2, 1) := by decide +kernel
theorem dX4_copyFrom_43 : decode cX4_copyFrom 43 = .ok (.invokevirtual 36, 3) := by decide +kernel
theorem dX4_copyFrom_46 : decode cX4_copyFrom 46 = .ok (.astore 4, 2) := by decide +kernel
theorem dX4_copyFrom_48 : decode cX4_copyFrom 48 = .ok (.aload_n 3, 1) := by decide +kernel
theorem dX4_copyFrom_49 : decode cX4_copyFrom 49 = .ok (.ifnull 14, 3) := by decide +kernel
theorem dX4_copyFrom_52 : decode cX4_copyFrom 52 = .ok (.aload 4, 2) := by decide +kernel
theorem dX4_copyFrom_54 : decode cX4_copyFrom 54 = .ok (.ifnull 9, 3) := by decide +kernel
theorem dX4_copyFrom_57 : decode cX4_copyFrom 57 = .ok (.aload 4, 2) := by decide +kernel
theorem dX4_copyFrom_59 : decode cX4_copyFrom 59 = .ok (.aload_n 3, 1) := by decide +kernel
theorem dX4_copyFrom_60 : decode cX4_copyFrom 60 = .ok (.invokevirtual 40, 3) := by decide +kernel
theorem dX4_copyFrom_63 : decode cX4_copyFrom 63 = .ok (.iinc 2 1, 3) := by decide +kernel
theorem dX4_copyFrom_66 : decode cX4_copyFrom 66 = .ok (.goto (-37), 3) := by decide +kernel
theorem dX4_copyFrom_69 : decode cX4_copyFrom 69 = .ok (.return_, 1) := by decide +kernel
set_option maxRecDepth 20000 in
theorem dX4_refusalOf_0 : decode cX4_refusalOf 0 = .ok (.aload_n 1, 1) := by decide +kernel
theorem dX4_refusalOf_1 : decode cX4_refusalOf 1 = .ok (.iconst 0, 1) := by decide +kernel
theorem dX4_refusalOf_2 : decode cX4_refusalOf 2 = .ok (.invokevirtual 43, 3) := by decide +kernel
theorem dX4_refusalOf_5 : decode cX4_refusalOf 5 = .ok (.istore_n 2, 1) := by decide +kernel
theorem dX4_refusalOf_6 : decode cX4_refusalOf 6 = .ok (.aload_n 1, 1) := by decide +kernel
theorem dX4_refusalOf_7 : decode cX4_refusalOf 7 = .ok (.iconst 1, 1) := by decide +kernel
theorem dX4_refusalOf_8 : decode cX4_refusalOf 8 = .ok (.invokevirtual 43, 3) := by decide +kernel
theorem dX4_refusalOf_11 : decode cX4_refusalOf 11 = .ok (.istore_n 3, 1) := by decide +kernel
theorem dX4_refusalOf_12 : decode cX4_refusalOf 12 = .ok (.aload_n 1, 1) := by decide +kernel
theorem dX4_refusalOf_13 : decode cX4_refusalOf 13 = .ok (.getfield 49, 3) := by decide +kernel
theorem dX4_refusalOf_16 : decode cX4_refusalOf 16 = .ok (.lookupswitch 84 #[(97, 51), (107, 44), (109, 77), (115, 60)], 44) := by decide +kernel
theorem dX4_refusalOf_60 : decode cX4_refusalOf 60 = .ok (.aload_n 0, 1) := by decide +kernel
theorem dX4_refusalOf_61 : decode cX4_refusalOf 61 = .ok (.iload_n 2, 1) := by decide +kernel
theorem dX4_refusalOf_62 : decode cX4_refusalOf 62 = .ok (.iload_n 3, 1) := by decide +kernel
theorem dX4_refusalOf_63 : decode cX4_refusalOf 63 = .ok (.invokevirtual 53, 3) := by decide +kernel
theorem dX4_refusalOf_66 : decode cX4_refusalOf 66 = .ok (.ireturn, 1) := by decide +kernel
theorem dX4_refusalOf_67 : decode cX4_refusalOf 67 = .ok (.aload_n 0, 1) := by decide +kernel
theorem dX4_refusalOf_68 : decode cX4_refusalOf 68 = .ok (.iload_n 2, 1) := by decide +kernel
theorem dX4_refusalOf_69 : decode cX4_refusalOf 69 = .ok (.iload_n 3, 1) := by decide +kernel
theorem dX4_refusalOf_70 : decode cX4_refusalOf 70 = .ok (.iconst 0, 1) := by decide +kernel
theorem dX4_refusalOf_71 : decode cX4_refusalOf 71 = .ok (.iconst 1, 1) := by decide +kernel
theorem dX4_refusalOf_72 : decode cX4_refusalOf 72 = .ok (.invokevirtual 57, 3) := by decide +kernel
theorem dX4_refusalOf_75 : decode cX4_refusalOf 75 = .ok (.ireturn, 1) := by decide +kernel
theorem dX4_refusalOf_76 : decode cX4_refusalOf 76 = .ok (.aload_n 0, 1) := by decide +kernel
theorem dX4_refusalOf_77 : decode cX4_refusalOf 77 = .ok (.iload_n 2, 1) := by decide +kernel
theorem dX4_refusalOf_78 : decode cX4_refusalOf 78 = .ok (.iload_n 3, 1) := by decide +kernel
theorem dX4_refusalOf_79 : decode cX4_refusalOf 79 = .ok (.aload_n 1, 1) := by decide +kernel
theorem dX4_refusalOf_80 : decode cX4_refusalOf 80 = .ok (.iconst 2, 1) := by decide +kernel
theorem dX4_refusalOf_81 : decode cX4_refusalOf 81 = .ok (.invokevirtual 43, 3) := by decide +kernel
theorem dX4_refusalOf_84 : decode cX4_refusalOf 84 = .ok (.aload_n 1, 1) := by decide +kernel
theorem dX4_refusalOf_85 : decode cX4_refusalOf 85 = .ok (.iconst 3, 1) := by decide +kernel
theorem dX4_refusalOf_86 : decode cX4_refusalOf 86 = .ok (.invokevirtual 43, 3) := by decide +kernel
theorem dX4_refusalOf_89 : decode cX4_refusalOf 89 = .ok (.invokevirtual 57, 3) := by decide +kernel
theorem dX4_refusalOf_92 : decode cX4_refusalOf 92 = .ok (.ireturn, 1) := by decide +kernel
theorem dX4_refusalOf_93 : decode cX4_refusalOf 93 = .ok (.aload_n 0, 1) := by decide +kernel
theorem dX4_refusalOf_94 : decode cX4_refusalOf 94 = .ok (.iload_n 2, 1) := by decide +kernel
theorem dX4_refusalOf_95 : decode cX4_refusalOf 95 = .ok (.iload_n 3, 1) := by decide +kernel
theorem dX4_refusalOf_96 : decode cX4_refusalOf 96 = .ok (.invokevirtual 61, 3) := by decide +kernel
theorem dX4_refusalOf_99 : decode cX4_refusalOf 99 = .ok (.ireturn, 1) := by decide +kernel
theorem dX4_refusalOf_100 : decode cX4_refusalOf 100 = .ok (.aload_n 0, 1) := by decide +kernel
theorem dX4_refusalOf_101 : decode cX4_refusalOf 101 = .ok (.iload_n 2, 1) := by decide +kernel
theorem dX4_refusalOf_102 : decode cX4_refusalOf 102 = .ok (.invokevirtual 36, 3) := by decide +kernel
theorem dX4_refusalOf_105 : decode cX4_refusalOf 105 = .ok (.ifnonnull 7, 3) := by decide +kernel
theorem dX4_refusalOf_108 : decode cX4_refusalOf 108 = .ok (.iconst (-1), 1) := by decide +kernel
theorem dX4_refusalOf_109 : decode cX4_refusalOf 109 = .ok (.goto 4, 3) := by decide +kernel
theorem dX4_refusalOf_112 : decode cX4_refusalOf 112 = .ok (.iconst 0, 1) := by decide +kernel
theorem dX4_refusalOf_113 : decode cX4_refusalOf 113 = .ok (.ireturn, 1) := by decide +kernel
set_option maxRecDepth 20000 in
theorem dX4_refusalOfTable_0 : decode cX4_refusalOfTable 0 = .ok (.iload_n 1, 1) := by decide +kernel
theorem dX4_refusalOfTable_1 : decode cX4_refusalOfTable 1 = .ok (.iconst 2, 1) := by decide +kernel
theorem dX4_refusalOfTable_2 : decode cX4_refusalOfTable 2 = .ok (.invokestatic 64, 3) := by decide +kernel
theorem dX4_refusalOfTable_5 : decode cX4_refusalOfTable 5 = .ok (.ifCond .eq 12, 3) := by decide +kernel
theorem dX4_refusalOfTable_8 : decode cX4_refusalOfTable 8 = .ok (.iload_n 2, 1) := by decide +kernel
theorem dX4_refusalOfTable_9 : decode cX4_refusalOfTable 9 = .ok (.bipush 9, 2) := by decide +kernel
theorem dX4_refusalOfTable_11 : decode cX4_refusalOfTable 11 = .ok (.invokestatic 64, 3) := by decide +kernel
theorem dX4_refusalOfTable_14 : decode cX4_refusalOfTable 14 = .ok (.ifCond .ne 5, 3) := by decide +kernel
theorem dX4_refusalOfTable_17 : decode cX4_refusalOfTable 17 = .ok (.iconst (-1), 1) := by decide +kernel
theorem dX4_refusalOfTable_18 : decode cX4_refusalOfTable 18 = .ok (.ireturn, 1) := by decide +kernel
theorem dX4_refusalOfTable_19 : decode cX4_refusalOfTable 19 = .ok (.aload_n 0, 1) := by decide +kernel
theorem dX4_refusalOfTable_20 : decode cX4_refusalOfTable 20 = .ok (.getfield 25, 3) := by decide +kernel
theorem dX4_refusalOfTable_23 : decode cX4_refusalOfTable 23 = .ok (.bipush 6, 2) := by decide +kernel
theorem dX4_refusalOfTable_25 : decode cX4_refusalOfTable 25 = .ok (.if_icmp .lt 8, 3) := by decide +kernel
theorem dX4_refusalOfTable_28 : decode cX4_refusalOfTable 28 = .ok (.bipush (-3), 2) := by decide +kernel
theorem dX4_refusalOfTable_30 : decode cX4_refusalOfTable 30 = .ok (.goto 4, 3) := by decide +kernel
theorem dX4_refusalOfTable_33 : decode cX4_refusalOfTable 33 = .ok (.iconst 0, 1) := by decide +kernel
theorem dX4_refusalOfTable_34 : decode cX4_refusalOfTable 34 = .ok (.ireturn, 1) := by decide +kernel
set_option maxRecDepth 20000 in
theorem dX4_refusalOfRow_0 : decode cX4_refusalOfRow 0 = .ok (.aload_n 0, 1) := by decide +kernel
theorem dX4_refusalOfRow_1 : decode cX4_refusalOfRow 1 = .ok (.iload_n 1, 1) := by decide +kernel
theorem dX4_refusalOfRow_2 : decode cX4_refusalOfRow 2 = .ok (.invokevirtual 36, 3) := by decide +kernel
theorem dX4_refusalOfRow_5 : decode cX4_refusalOfRow 5 = .ok (.ifnull 17, 3) := by decide +kernel
theorem dX4_refusalOfRow_8 : decode cX4_refusalOfRow 8 = .ok (.iload_n 2, 1) := by decide +kernel
theorem dX4_refusalOfRow_9 : decode cX4_refusalOfRow 9 = .ok (.invokestatic 68, 3) := by decide +kernel
theorem dX4_refusalOfRow_12 : decode cX4_refusalOfRow 12 = .ok (.ifCond .eq 10, 3) := by decide +kernel
theorem dX4_refusalOfRow_15 : decode cX4_refusalOfRow 15 = .ok (.iload_n 3, 1) := by decide +kernel
theorem dX4_refusalOfRow_16 : decode cX4_refusalOfRow 16 = .ok (.invokestatic 68, 3) := by decide +kernel
theorem dX4_refusalOfRow_19 : decode cX4_refusalOfRow 19 = .ok (.ifCond .ne 5, 3) := by decide +kernel
theorem dX4_refusalOfRow_22 : decode cX4_refusalOfRow 22 = .ok (.iconst (-1), 1) := by decide +kernel
theorem dX4_refusalOfRow_23 : decode cX4_refusalOfRow 23 = .ok (.ireturn, 1) := by decide +kernel
theorem dX4_refusalOfRow_24 : decode cX4_refusalOfRow 24 = .ok (.iload 4, 2) := by decide +kernel
theorem dX4_refusalOfRow_26 : decode cX4_refusalOfRow 26 = .ok (.iconst 1, 1) := by decide +kernel
theorem dX4_refusalOfRow_27 : decode cX4_refusalOfRow 27 = .ok (.if_icmp .lt 10, 3) := by decide +kernel
theorem dX4_refusalOfRow_30 : decode cX4_refusalOfRow 30 = .ok (.iload 4, 2) := by decide +kernel
theorem dX4_refusalOfRow_32 : decode cX4_refusalOfRow 32 = .ok (.bipush 100, 2) := by decide +kernel
theorem dX4_refusalOfRow_34 : decode cX4_refusalOfRow 34 = .ok (.if_icmp .le 5, 3) := by decide +kernel
theorem dX4_refusalOfRow_37 : decode cX4_refusalOfRow 37 = .ok (.iconst (-1), 1) := by decide +kernel
theorem dX4_refusalOfRow_38 : decode cX4_refusalOfRow 38 = .ok (.ireturn, 1) := by decide +kernel
theorem dX4_refusalOfRow_39 : decode cX4_refusalOfRow 39 = .ok (.aload_n 0, 1) := by decide +kernel
theorem dX4_refusalOfRow_40 : decode cX4_refusalOfRow 40 = .ok (.getfield 29, 3) := by decide +kernel
theorem dX4_refusalOfRow_43 : decode cX4_refusalOfRow 43 = .ok (.iload 4, 2) := by decide +kernel
theorem dX4_refusalOfRow_45 : decode cX4_refusalOfRow 45 = .ok (.iadd, 1) := by decide +kernel
theorem dX4_refusalOfRow_46 : decode cX4_refusalOfRow 46 = .ok (.sipush 20000, 3) := by decide +kernel
theorem dX4_refusalOfRow_49 : decode cX4_refusalOfRow 49 = .ok (.if_icmp .le 8, 3) := by decide +kernel
theorem dX4_refusalOfRow_52 : decode cX4_refusalOfRow 52 = .ok (.bipush (-3), 2) := by decide +kernel
theorem dX4_refusalOfRow_54 : decode cX4_refusalOfRow 54 = .ok (.goto 4, 3) := by decide +kernel
theorem dX4_refusalOfRow_57 : decode cX4_refusalOfRow 57 = .ok (.iconst 0, 1) := by decide +kernel
theorem dX4_refusalOfRow_58 : decode cX4_refusalOfRow 58 = .ok (.ireturn, 1) := by decide +kernel
set_option maxRecDepth 20000 in
theorem dX4_refusalOfMerge_0 : decode cX4_refusalOfMerge 0 = .ok (.aload_n 0, 1) := by decide +kernel
theorem dX4_refusalOfMerge_1 : decode cX4_refusalOfMerge 1 = .ok (.iload_n 1, 1) := by decide +kernel
theorem dX4_refusalOfMerge_2 : decode cX4_refusalOfMerge 2 = .ok (.invokevirtual 36, 3) := by decide +kernel
theorem dX4_refusalOfMerge_5 : decode cX4_refusalOfMerge 5 = .ok (.astore_n 3, 1) := by decide +kernel
theorem dX4_refusalOfMerge_6 : decode cX4_refusalOfMerge 6 = .ok (.aload_n 0, 1) := by decide +kernel
theorem dX4_refusalOfMerge_7 : decode cX4_refusalOfMerge 7 = .ok (.iload_n 2, 1) := by decide +kernel
theorem dX4_refusalOfMerge_8 : decode cX4_refusalOfMerge 8 = .ok (.invokevirtual 36, 3) := by decide +kernel
theorem dX4_refusalOfMerge_11 : decode cX4_refusalOfMerge 11 = .ok (.astore 4, 2) := by decide +kernel
theorem dX4_refusalOfMerge_13 : decode cX4_refusalOfMerge 13 = .ok (.aload_n 3, 1) := by decide +kernel
theorem dX4_refusalOfMerge_14 : decode cX4_refusalOfMerge 14 = .ok (.ifnull 13, 3) := by decide +kernel
theorem dX4_refusalOfMerge_17 : decode cX4_refusalOfMerge 17 = .ok (.aload 4, 2) := by decide +kernel
theorem dX4_refusalOfMerge_19 : decode cX4_refusalOfMerge 19 = .ok (.ifnull 8, 3) := by decide +kernel
theorem dX4_refusalOfMerge_22 : decode cX4_refusalOfMerge 22 = .ok (.iload_n 1, 1) := by decide +kernel
theorem dX4_refusalOfMerge_23 : decode cX4_refusalOfMerge 23 = .ok (.iload_n 2, 1) := by decide +kernel
theorem dX4_refusalOfMerge_24 : decode cX4_refusalOfMerge 24 = .ok (.if_icmp .ne 5, 3) := by decide +kernel
theorem dX4_refusalOfMerge_27 : decode cX4_refusalOfMerge 27 = .ok (.iconst (-1), 1) := by decide +kernel
theorem dX4_refusalOfMerge_28 : decode cX4_refusalOfMerge 28 = .ok (.ireturn, 1) := by decide +kernel
theorem dX4_refusalOfMerge_29 : decode cX4_refusalOfMerge 29 = .ok (.aload_n 3, 1) := by decide +kernel
theorem dX4_refusalOfMerge_30 : decode cX4_refusalOfMerge 30 = .ok (.getfield 72, 3) := by decide +kernel
theorem dX4_refusalOfMerge_33 : decode cX4_refusalOfMerge 33 = .ok (.aload 4, 2) := by decide +kernel
theorem dX4_refusalOfMerge_35 : decode cX4_refusalOfMerge 35 = .ok (.getfield 72, 3) := by decide +kernel
theorem dX4_refusalOfMerge_38 : decode cX4_refusalOfMerge 38 = .ok (.invokevirtual 76, 3) := by decide +kernel
theorem dX4_refusalOfMerge_41 : decode cX4_refusalOfMerge 41 = .ok (.ifCond .eq 7, 3) := by decide +kernel
theorem dX4_refusalOfMerge_44 : decode cX4_refusalOfMerge 44 = .ok (.iconst 0, 1) := by decide +kernel
theorem dX4_refusalOfMerge_45 : decode cX4_refusalOfMerge 45 = .ok (.goto 5, 3) := by decide +kernel
theorem dX4_refusalOfMerge_48 : decode cX4_refusalOfMerge 48 = .ok (.bipush (-2), 2) := by decide +kernel
theorem dX4_refusalOfMerge_50 : decode cX4_refusalOfMerge 50 = .ok (.ireturn, 1) := by decide +kernel
set_option maxRecDepth 20000 in
theorem dX4_carryOut_0 : decode cX4_carryOut 0 = .ok (.aload_n 1, 1) := by decide +kernel
theorem dX4_carryOut_1 : decode cX4_carryOut 1 = .ok (.iconst 0, 1) := by decide +kernel
theorem dX4_carryOut_2 : decode cX4_carryOut 2 = .ok (.invokevirtual 43, 3) := by decide +kernel
theorem dX4_carryOut_5 : decode cX4_carryOut 5 = .ok (.istore_n 2, 1) := by decide +kernel
theorem dX4_carryOut_6 : decode cX4_carryOut 6 = .ok (.aload_n 1, 1) := by decide +kernel
theorem dX4_carryOut_7 : decode cX4_carryOut 7 = .ok (.iconst 1, 1) := by decide +kernel
theorem dX4_carryOut_8 : decode cX4_carryOut 8 = .ok (.invokevirtual 43, 3) := by decide +kernel
theorem dX4_carryOut_11 : decode cX4_carryOut 11 = .ok (.istore_n 3, 1) := by decide +kernel
theorem dX4_carryOut_12 : decode cX4_carryOut 12 = .ok (.aload_n 1, 1) := by decide +kernel
theorem dX4_carryOut_13 : decode cX4_carryOut 13 = .ok (.getfield 49, 3) := by decide +kernel
theorem dX4_carryOut_16 : decode cX4_carryOut 16 = .ok (.lookupswitch 84 #[(97, 51), (107, 44), (109, 77), (115, 60)], 44) := by decide +kernel
theorem dX4_carryOut_60 : decode cX4_carryOut 60 = .ok (.aload_n 0, 1) := by decide +kernel
theorem dX4_carryOut_61 : decode cX4_carryOut 61 = .ok (.iload_n 2, 1) := by decide +kernel
theorem dX4_carryOut_62 : decode cX4_carryOut 62 = .ok (.iload_n 3, 1) := by decide +kernel
theorem dX4_carryOut_63 : decode cX4_carryOut 63 = .ok (.invokevirtual 82, 3) := by decide +kernel
theorem dX4_carryOut_66 : decode cX4_carryOut 66 = .ok (.ireturn, 1) := by decide +kernel
theorem dX4_carryOut_67 : decode cX4_carryOut 67 = .ok (.aload_n 0, 1) := by decide +kernel
theorem dX4_carryOut_68 : decode cX4_carryOut 68 = .ok (.iload_n 2, 1) := by decide +kernel
theorem dX4_carryOut_69 : decode cX4_carryOut 69 = .ok (.iload_n 3, 1) := by decide +kernel
theorem dX4_carryOut_70 : decode cX4_carryOut 70 = .ok (.iconst 0, 1) := by decide +kernel
theorem dX4_carryOut_71 : decode cX4_carryOut 71 = .ok (.iconst 1, 1) := by decide +kernel
theorem dX4_carryOut_72 : decode cX4_carryOut 72 = .ok (.invokevirtual 85, 3) := by decide +kernel
theorem dX4_carryOut_75 : decode cX4_carryOut 75 = .ok (.ireturn, 1) := by decide +kernel
theorem dX4_carryOut_76 : decode cX4_carryOut 76 = .ok (.aload_n 0, 1) := by decide +kernel
theorem dX4_carryOut_77 : decode cX4_carryOut 77 = .ok (.iload_n 2, 1) := by decide +kernel
theorem dX4_carryOut_78 : decode cX4_carryOut 78 = .ok (.iload_n 3, 1) := by decide +kernel
theorem dX4_carryOut_79 : decode cX4_carryOut 79 = .ok (.aload_n 1, 1) := by decide +kernel
theorem dX4_carryOut_80 : decode cX4_carryOut 80 = .ok (.iconst 2, 1) := by decide +kernel
theorem dX4_carryOut_81 : decode cX4_carryOut 81 = .ok (.invokevirtual 43, 3) := by decide +kernel
theorem dX4_carryOut_84 : decode cX4_carryOut 84 = .ok (.aload_n 1, 1) := by decide +kernel
theorem dX4_carryOut_85 : decode cX4_carryOut 85 = .ok (.iconst 3, 1) := by decide +kernel
theorem dX4_carryOut_86 : decode cX4_carryOut 86 = .ok (.invokevirtual 43, 3) := by decide +kernel
theorem dX4_carryOut_89 : decode cX4_carryOut 89 = .ok (.invokevirtual 85, 3) := by decide +kernel
theorem dX4_carryOut_92 : decode cX4_carryOut 92 = .ok (.ireturn, 1) := by decide +kernel
theorem dX4_carryOut_93 : decode cX4_carryOut 93 = .ok (.aload_n 0, 1) := by decide +kernel
theorem dX4_carryOut_94 : decode cX4_carryOut 94 = .ok (.iload_n 2, 1) := by decide +kernel
theorem dX4_carryOut_95 : decode cX4_carryOut 95 = .ok (.iload_n 3, 1) := by decide +kernel
theorem dX4_carryOut_96 : decode cX4_carryOut 96 = .ok (.invokevirtual 88, 3) := by decide +kernel
theorem dX4_carryOut_99 : decode cX4_carryOut 99 = .ok (.ireturn, 1) := by decide +kernel
theorem dX4_carryOut_100 : decode cX4_carryOut 100 = .ok (.aload_n 0, 1) := by decide +kernel
theorem dX4_carryOut_101 : decode cX4_carryOut 101 = .ok (.iload_n 2, 1) := by decide +kernel
theorem dX4_carryOut_102 : decode cX4_carryOut 102 = .ok (.invokevirtual 91, 3) := by decide +kernel
theorem dX4_carryOut_105 : decode cX4_carryOut 105 = .ok (.ireturn, 1) := by decide +kernel
set_option maxRecDepth 20000 in
theorem dX4_makeTable_0 : decode cX4_makeTable 0 = .ok (.aload_n 0, 1) := by decide +kernel
theorem dX4_makeTable_1 : decode cX4_makeTable 1 = .ok (.aload_n 0, 1) := by decide +kernel
theorem dX4_makeTable_2 : decode cX4_makeTable 2 = .ok (.getfield 25, 3) := by decide +kernel
theorem dX4_makeTable_5 : decode cX4_makeTable 5 = .ok (.iconst 1, 1) := by decide +kernel
theorem dX4_makeTable_6 : decode cX4_makeTable 6 = .ok (.iadd, 1) := by decide +kernel
theorem dX4_makeTable_7 : decode cX4_makeTable 7 = .ok (.bipush 6, 2) := by decide +kernel
theorem dX4_makeTable_9 : decode cX4_makeTable 9 = .ok (.invokestatic 94, 3) := by decide +kernel
theorem dX4_makeTable_12 : decode cX4_makeTable 12 = .ok (.putfield 25, 3) := by decide +kernel
theorem dX4_makeTable_15 : decode cX4_makeTable 15 = .ok (.aload_n 0, 1) := by decide +kernel
theorem dX4_makeTable_16 : decode cX4_makeTable 16 = .ok (.aload_n 0, 1) := by decide +kernel
theorem dX4_makeTable_17 : decode cX4_makeTable 17 = .ok (.getfield 25, 3) := by decide +kernel
theorem dX4_makeTable_20 : decode cX4_makeTable 20 = .ok (.iconst 1, 1) := by decide +kernel
theorem dX4_makeTable_21 : decode cX4_makeTable 21 = .ok (.isub, 1) := by decide +kernel
theorem dX4_makeTable_22 : decode cX4_makeTable 22 = .ok (.invokevirtual 36, 3) := by decide +kernel
theorem dX4_makeTable_25 : decode cX4_makeTable 25 = .ok (.astore_n 3, 1) := by decide +kernel
theorem dX4_makeTable_26 : decode cX4_makeTable 26 = .ok (.aload_n 3, 1) := by decide +kernel
theorem dX4_makeTable_27 : decode cX4_makeTable 27 = .ok (.ifnull 9, 3) := by decide +kernel
theorem dX4_makeTable_30 : decode cX4_makeTable 30 = .ok (.aload_n 3, 1) := by decide +kernel
theorem dX4_makeTable_31 : decode cX4_makeTable 31 = .ok (.iload_n 1, 1) := by decide +kernel
theorem dX4_makeTable_32 : decode cX4_makeTable 32 = .ok (.iload_n 2, 1) := by decide +kernel
theorem dX4_makeTable_33 : decode cX4_makeTable 33 = .ok (.invokevirtual 99, 3) := by decide +kernel
theorem dX4_makeTable_36 : decode cX4_makeTable 36 = .ok (.aload_n 0, 1) := by decide +kernel
theorem dX4_makeTable_37 : decode cX4_makeTable 37 = .ok (.getfield 25, 3) := by decide +kernel
theorem dX4_makeTable_40 : decode cX4_makeTable 40 = .ok (.iconst 1, 1) := by decide +kernel
theorem dX4_makeTable_41 : decode cX4_makeTable 41 = .ok (.isub, 1) := by decide +kernel
theorem dX4_makeTable_42 : decode cX4_makeTable 42 = .ok (.ireturn, 1) := by decide +kernel
set_option maxRecDepth 20000 in
theorem dX4_putRow_0 : decode cX4_putRow 0 = .ok (.aload_n 0, 1) := by decide +kernel
theorem dX4_putRow_1 : decode cX4_putRow 1 = .ok (.iload_n 1, 1) := by decide +kernel
theorem dX4_putRow_2 : decode cX4_putRow 2 = .ok (.invokevirtual 36, 3) := by decide +kernel
theorem dX4_putRow_5 : decode cX4_putRow 5 = .ok (.astore 5, 2) := by decide +kernel
theorem dX4_putRow_7 : decode cX4_putRow 7 = .ok (.aload 5, 2) := by decide +kernel
theorem dX4_putRow_9 : decode cX4_putRow 9 = .ok (.ifnonnull 5, 3) := by decide +kernel
theorem dX4_putRow_12 : decode cX4_putRow 12 = .ok (.iconst (-1), 1) := by decide +kernel
theorem dX4_putRow_13 : decode cX4_putRow 13 = .ok (.ireturn, 1) := by decide +kernel
theorem dX4_putRow_14 : decode cX4_putRow 14 = .ok (.iload_n 2, 1) := by decide +kernel
theorem dX4_putRow_15 : decode cX4_putRow 15 = .ok (.istore 6, 2) := by decide +kernel
theorem dX4_putRow_17 : decode cX4_putRow 17 = .ok (.iconst 0, 1) := by decide +kernel
theorem dX4_putRow_18 : decode cX4_putRow 18 = .ok (.istore 7, 2) := by decide +kernel
theorem dX4_putRow_20 : decode cX4_putRow 20 = .ok (.iload 7, 2) := by decide +kernel
theorem dX4_putRow_22 : decode cX4_putRow 22 = .ok (.iload 4, 2) := by decide +kernel
theorem dX4_putRow_24 : decode cX4_putRow 24 = .ok (.if_icmp .ge 50, 3) := by decide +kernel
theorem dX4_putRow_27 : decode cX4_putRow 27 = .ok (.aload 5, 2) := by decide +kernel
theorem dX4_putRow_29 : decode cX4_putRow 29 = .ok (.getfield 72, 3) := by decide +kernel
theorem dX4_putRow_32 : decode cX4_putRow 32 = .ok (.iload 6, 2) := by decide +kernel
theorem dX4_putRow_34 : decode cX4_putRow 34 = .ok (.invokevirtual 103, 3) := by decide +kernel
theorem dX4_putRow_37 : decode cX4_putRow 37 = .ok (.aload 5, 2) := by decide +kernel
theorem dX4_putRow_39 : decode cX4_putRow 39 = .ok (.iload 6, 2) := by decide +kernel
theorem dX4_putRow_41 : decode cX4_putRow 41 = .ok (.aload_n 0, 1) := by decide +kernel
theorem dX4_putRow_42 : decode cX4_putRow 42 = .ok (.getfield 29, 3) := by decide +kernel
theorem dX4_putRow_45 : decode cX4_putRow 45 = .ok (.invokevirtual 107, 3) := by decide +kernel
theorem dX4_putRow_48 : decode cX4_putRow 48 = .ok (.aload_n 0, 1) := by decide +kernel
theorem dX4_putRow_49 : decode cX4_putRow 49 = .ok (.dup, 1) := by decide +kernel
theorem dX4_putRow_50 : decode cX4_putRow 50 = .ok (.getfield 29, 3) := by decide +kernel
theorem dX4_putRow_53 : decode cX4_putRow 53 = .ok (.iconst 1, 1) := by decide +kernel
theorem dX4_putRow_54 : decode cX4_putRow 54 = .ok (.iadd, 1) := by decide +kernel
theorem dX4_putRow_55 : decode cX4_putRow 55 = .ok (.putfield 29, 3) := by decide +kernel
theorem dX4_putRow_58 : decode cX4_putRow 58 = .ok (.iload 6, 2) := by decide +kernel
theorem dX4_putRow_60 : decode cX4_putRow 60 = .ok (.iload_n 3, 1) := by decide +kernel
theorem dX4_putRow_61 : decode cX4_putRow 61 = .ok (.iadd, 1) := by decide +kernel
theorem dX4_putRow_62 : decode cX4_putRow 62 = .ok (.sipush 1000, 3) := by decide +kernel
theorem dX4_putRow_65 : decode cX4_putRow 65 = .ok (.irem, 1) := by decide +kernel
theorem dX4_putRow_66 : decode cX4_putRow 66 = .ok (.istore 6, 2) := by decide +kernel
theorem dX4_putRow_68 : decode cX4_putRow 68 = .ok (.iinc 7 1, 3) := by decide +kernel
theorem dX4_putRow_71 : decode cX4_putRow 71 = .ok (.goto (-51), 3) := by decide +kernel
theorem dX4_putRow_74 : decode cX4_putRow 74 = .ok (.aload 5, 2) := by decide +kernel
theorem dX4_putRow_76 : decode cX4_putRow 76 = .ok (.getfield 72, 3) := by decide +kernel
theorem dX4_putRow_79 : decode cX4_putRow 79 = .ok (.invokevirtual 110, 3) := by decide +kernel
theorem dX4_putRow_82 : decode cX4_putRow 82 = .ok (.ireturn, 1) := by decide +kernel
set_option maxRecDepth 20000 in
theorem dX4_unite_0 : decode cX4_unite 0 = .ok (.aload_n 0, 1) := by decide +kernel
theorem dX4_unite_1 : decode cX4_unite 1 = .ok (.iload_n 1, 1) := by decide +kernel
theorem dX4_unite_2 : decode cX4_unite 2 = .ok (.invokevirtual 36, 3) := by decide +kernel
theorem dX4_unite_5 : decode cX4_unite 5 = .ok (.astore_n 3, 1) := by decide +kernel
theorem dX4_unite_6 : decode cX4_unite 6 = .ok (.aload_n 0, 1) := by decide +kernel
theorem dX4_unite_7 : decode cX4_unite 7 = .ok (.iload_n 2, 1) := by decide +kernel
theorem dX4_unite_8 : decode cX4_unite 8 = .ok (.invokevirtual 36, 3) := by decide +kernel
theorem dX4_unite_11 : decode cX4_unite 11 = .ok (.astore 4, 2) := by decide +kernel
theorem dX4_unite_13 : decode cX4_unite 13 = .ok (.aload_n 3, 1) := by decide +kernel
theorem dX4_unite_14 : decode cX4_unite 14 = .ok (.ifnull 8, 3) := by decide +kernel
theorem dX4_unite_17 : decode cX4_unite 17 = .ok (.aload 4, 2) := by decide +kernel
theorem dX4_unite_19 : decode cX4_unite 19 = .ok (.ifnonnull 5, 3) := by decide +kernel
theorem dX4_unite_22 : decode cX4_unite 22 = .ok (.iconst (-1), 1) := by decide +kernel
theorem dX4_unite_23 : decode cX4_unite 23 = .ok (.ireturn, 1) := by decide +kernel
theorem dX4_unite_24 : decode cX4_unite 24 = .ok (.aload_n 3, 1) := by decide +kernel
theorem dX4_unite_25 : decode cX4_unite 25 = .ok (.getfield 72, 3) := by decide +kernel
theorem dX4_unite_28 : decode cX4_unite 28 = .ok (.aload 4, 2) := by decide +kernel
theorem dX4_unite_30 : decode cX4_unite 30 = .ok (.getfield 72, 3) := by decide +kernel
theorem dX4_unite_33 : decode cX4_unite 33 = .ok (.invokevirtual 114, 3) := by decide +kernel
theorem dX4_unite_36 : decode cX4_unite 36 = .ok (.aload_n 3, 1) := by decide +kernel
theorem dX4_unite_37 : decode cX4_unite 37 = .ok (.aload 4, 2) := by decide +kernel
theorem dX4_unite_39 : decode cX4_unite 39 = .ok (.invokevirtual 117, 3) := by decide +kernel
theorem dX4_unite_42 : decode cX4_unite 42 = .ok (.aload_n 3, 1) := by decide +kernel
theorem dX4_unite_43 : decode cX4_unite 43 = .ok (.getfield 72, 3) := by decide +kernel
theorem dX4_unite_46 : decode cX4_unite 46 = .ok (.invokevirtual 110, 3) := by decide +kernel
theorem dX4_unite_49 : decode cX4_unite 49 = .ok (.ireturn, 1) := by decide +kernel
set_option maxRecDepth 20000 in
theorem dX4_empty_0 : decode cX4_empty 0 = .ok (.aload_n 0, 1) := by decide +kernel
theorem dX4_empty_1 : decode cX4_empty 1 = .ok (.iload_n 1, 1) := by decide +kernel
theorem dX4_empty_2 : decode cX4_empty 2 = .ok (.invokevirtual 36, 3) := by decide +kernel
theorem dX4_empty_5 : decode cX4_empty 5 = .ok (.astore_n 2, 1) := by decide +kernel
theorem dX4_empty_6 : decode cX4_empty 6 = .ok (.aload_n 2, 1) := by decide +kernel
theorem dX4_empty_7 : decode cX4_empty 7 = .ok (.ifnonnull 5, 3) := by decide +kernel
theorem dX4_empty_10 : decode cX4_empty 10 = .ok (.iconst (-1), 1) := by decide +kernel
theorem dX4_empty_11 : decode cX4_empty 11 = .ok (.ireturn, 1) := by decide +kernel
theorem dX4_empty_12 : decode cX4_empty 12 = .ok (.aload_n 2, 1) := by decide +kernel
theorem dX4_empty_13 : decode cX4_empty 13 = .ok (.getfield 120, 3) := by decide +kernel
theorem dX4_empty_16 : decode cX4_empty 16 = .ok (.istore_n 3, 1) := by decide +kernel
theorem dX4_empty_17 : decode cX4_empty 17 = .ok (.aload_n 0, 1) := by decide +kernel
theorem dX4_empty_18 : decode cX4_empty 18 = .ok (.getfield 20, 3) := by decide +kernel
theorem dX4_empty_21 : decode cX4_empty 21 = .ok (.iload_n 1, 1) := by decide +kernel
theorem dX4_empty_22 : decode cX4_empty 22 = .ok (.aload_n 2, 1) := by decide +kernel
theorem dX4_empty_23 : decode cX4_empty 23 = .ok (.getfield 72, 3) := by decide +kernel
theorem dX4_empty_26 : decode cX4_empty 26 = .ok (.invokevirtual 110, 3) := by decide +kernel
theorem dX4_empty_29 : decode cX4_empty 29 = .ok (.iload_n 3, 1) := by decide +kernel
theorem dX4_empty_30 : decode cX4_empty 30 = .ok (.invokevirtual 123, 3) := by decide +kernel
theorem dX4_empty_33 : decode cX4_empty 33 = .ok (.aload_n 2, 1) := by decide +kernel
theorem dX4_empty_34 : decode cX4_empty 34 = .ok (.invokevirtual 127, 3) := by decide +kernel
theorem dX4_empty_37 : decode cX4_empty 37 = .ok (.iload_n 3, 1) := by decide +kernel
theorem dX4_empty_38 : decode cX4_empty 38 = .ok (.ireturn, 1) := by decide +kernel
set_option maxRecDepth 20000 in
theorem dX4_tablesWithThing_0 : decode cX4_tablesWithThing 0 = .ok (.iconst 0, 1) := by decide +kernel
theorem dX4_tablesWithThing_1 : decode cX4_tablesWithThing 1 = .ok (.istore_n 2, 1) := by decide +kernel
theorem dX4_tablesWithThing_2 : decode cX4_tablesWithThing 2 = .ok (.iconst 0, 1) := by decide +kernel
theorem dX4_tablesWithThing_3 : decode cX4_tablesWithThing 3 = .ok (.istore_n 3, 1) := by decide +kernel
theorem dX4_tablesWithThing_4 : decode cX4_tablesWithThing 4 = .ok (.iload_n 3, 1) := by decide +kernel
theorem dX4_tablesWithThing_5 : decode cX4_tablesWithThing 5 = .ok (.bipush 6, 2) := by decide +kernel
theorem dX4_tablesWithThing_7 : decode cX4_tablesWithThing 7 = .ok (.if_icmp .ge 33, 3) := by decide +kernel
theorem dX4_tablesWithThing_10 : decode cX4_tablesWithThing 10 = .ok (.aload_n 0, 1) := by decide +kernel
theorem dX4_tablesWithThing_11 : decode cX4_tablesWithThing 11 = .ok (.iload_n 3, 1) := by decide +kernel
theorem dX4_tablesWithThing_12 : decode cX4_tablesWithThing 12 = .ok (.invokevirtual 36, 3) := by decide +kernel
theorem dX4_tablesWithThing_15 : decode cX4_tablesWithThing 15 = .ok (.astore 4, 2) := by decide +kernel
theorem dX4_tablesWithThing_17 : decode cX4_tablesWithThing 17 = .ok (.aload 4, 2) := by decide +kernel
theorem dX4_tablesWithThing_19 : decode cX4_tablesWithThing 19 = .ok (.ifnull 15, 3) := by decide +kernel
theorem dX4_tablesWithThing_22 : decode cX4_tablesWithThing 22 = .ok (.aload 4, 2) := by decide +kernel
theorem dX4_tablesWithThing_24 : decode cX4_tablesWithThing 24 = .ok (.iload_n 1, 1) := by decide +kernel
theorem dX4_tablesWithThing_25 : decode cX4_tablesWithThing 25 = .ok (.invokevirtual 130, 3) := by decide +kernel
theorem dX4_tablesWithThing_28 : decode cX4_tablesWithThing 28 = .ok (.ifCond .eq 6, 3) := by decide +kernel
theorem dX4_tablesWithThing_31 : decode cX4_tablesWithThing 31 = .ok (.iinc 2 1, 3) := by decide +kernel
theorem dX4_tablesWithThing_34 : decode cX4_tablesWithThing 34 = .ok (.iinc 3 1, 3) := by decide +kernel
theorem dX4_tablesWithThing_37 : decode cX4_tablesWithThing 37 = .ok (.goto (-33), 3) := by decide +kernel
theorem dX4_tablesWithThing_40 : decode cX4_tablesWithThing 40 = .ok (.iload_n 2, 1) := by decide +kernel
theorem dX4_tablesWithThing_41 : decode cX4_tablesWithThing 41 = .ok (.ireturn, 1) := by decide +kernel
set_option maxRecDepth 20000 in
theorem dX4_thingsOfAny_0 : decode cX4_thingsOfAny 0 = .ok (.iconst 0, 1) := by decide +kernel
theorem dX4_thingsOfAny_1 : decode cX4_thingsOfAny 1 = .ok (.istore_n 1, 1) := by decide +kernel
theorem dX4_thingsOfAny_2 : decode cX4_thingsOfAny 2 = .ok (.iconst 0, 1) := by decide +kernel
theorem dX4_thingsOfAny_3 : decode cX4_thingsOfAny 3 = .ok (.istore_n 2, 1) := by decide +kernel
theorem dX4_thingsOfAny_4 : decode cX4_thingsOfAny 4 = .ok (.iload_n 2, 1) := by decide +kernel
theorem dX4_thingsOfAny_5 : decode cX4_thingsOfAny 5 = .ok (.sipush 1000, 3) := by decide +kernel
theorem dX4_thingsOfAny_8 : decode cX4_thingsOfAny 8 = .ok (.if_icmp .ge 20, 3) := by decide +kernel
theorem dX4_thingsOfAny_11 : decode cX4_thingsOfAny 11 = .ok (.aload_n 0, 1) := by decide +kernel
theorem dX4_thingsOfAny_12 : decode cX4_thingsOfAny 12 = .ok (.iload_n 2, 1) := by decide +kernel
theorem dX4_thingsOfAny_13 : decode cX4_thingsOfAny 13 = .ok (.invokevirtual 133, 3) := by decide +kernel
theorem dX4_thingsOfAny_16 : decode cX4_thingsOfAny 16 = .ok (.ifCond .le 6, 3) := by decide +kernel
theorem dX4_thingsOfAny_19 : decode cX4_thingsOfAny 19 = .ok (.iinc 1 1, 3) := by decide +kernel
theorem dX4_thingsOfAny_22 : decode cX4_thingsOfAny 22 = .ok (.iinc 2 1, 3) := by decide +kernel
theorem dX4_thingsOfAny_25 : decode cX4_thingsOfAny 25 = .ok (.goto (-21), 3) := by decide +kernel
theorem dX4_thingsOfAny_28 : decode cX4_thingsOfAny 28 = .ok (.iload_n 1, 1) := by decide +kernel
theorem dX4_thingsOfAny_29 : decode cX4_thingsOfAny 29 = .ok (.ireturn, 1) := by decide +kernel
set_option maxRecDepth 20000 in
theorem dX4_thingsOfAll_0 : decode cX4_thingsOfAll 0 = .ok (.iconst 0, 1) := by decide +kernel
theorem dX4_thingsOfAll_1 : decode cX4_thingsOfAll 1 = .ok (.istore_n 1, 1) := by decide +kernel
theorem dX4_thingsOfAll_2 : decode cX4_thingsOfAll 2 = .ok (.iconst 0, 1) := by decide +kernel
theorem dX4_thingsOfAll_3 : decode cX4_thingsOfAll 3 = .ok (.istore_n 2, 1) := by decide +kernel
theorem dX4_thingsOfAll_4 : decode cX4_thingsOfAll 4 = .ok (.iload_n 2, 1) := by decide +kernel
theorem dX4_thingsOfAll_5 : decode cX4_thingsOfAll 5 = .ok (.sipush 1000, 3) := by decide +kernel
theorem dX4_thingsOfAll_8 : decode cX4_thingsOfAll 8 = .ok (.if_icmp .ge 31, 3) := by decide +kernel
theorem dX4_thingsOfAll_11 : decode cX4_thingsOfAll 11 = .ok (.aload_n 0, 1) := by decide +kernel
theorem dX4_thingsOfAll_12 : decode cX4_thingsOfAll 12 = .ok (.getfield 25, 3) := by decide +kernel
theorem dX4_thingsOfAll_15 : decode cX4_thingsOfAll 15 = .ok (.ifCond .le 18, 3) := by decide +kernel
theorem dX4_thingsOfAll_18 : decode cX4_thingsOfAll 18 = .ok (.aload_n 0, 1) := by decide +kernel
theorem dX4_thingsOfAll_19 : decode cX4_thingsOfAll 19 = .ok (.iload_n 2, 1) := by decide +kernel
theorem dX4_thingsOfAll_20 : decode cX4_thingsOfAll 20 = .ok (.invokevirtual 133, 3) := by decide +kernel
theorem dX4_thingsOfAll_23 : decode cX4_thingsOfAll 23 = .ok (.aload_n 0, 1) := by decide +kernel
theorem dX4_thingsOfAll_24 : decode cX4_thingsOfAll 24 = .ok (.getfield 25, 3) := by decide +kernel
theorem dX4_thingsOfAll_27 : decode cX4_thingsOfAll 27 = .ok (.if_icmp .ne 6, 3) := by decide +kernel
theorem dX4_thingsOfAll_30 : decode cX4_thingsOfAll 30 = .ok (.iinc 1 1, 3) := by decide +kernel
theorem dX4_thingsOfAll_33 : decode cX4_thingsOfAll 33 = .ok (.iinc 2 1, 3) := by decide +kernel
theorem dX4_thingsOfAll_36 : decode cX4_thingsOfAll 36 = .ok (.goto (-32), 3) := by decide +kernel
theorem dX4_thingsOfAll_39 : decode cX4_thingsOfAll 39 = .ok (.iload_n 1, 1) := by decide +kernel
theorem dX4_thingsOfAll_40 : decode cX4_thingsOfAll 40 = .ok (.ireturn, 1) := by decide +kernel
set_option maxRecDepth 20000 in
theorem dX4_tablesWithoutError_0 : decode cX4_tablesWithoutError 0 = .ok (.iconst 0, 1) := by decide +kernel
theorem dX4_tablesWithoutError_1 : decode cX4_tablesWithoutError 1 = .ok (.istore_n 1, 1) := by decide +kernel
theorem dX4_tablesWithoutError_2 : decode cX4_tablesWithoutError 2 = .ok (.iconst 0, 1) := by decide +kernel
theorem dX4_tablesWithoutError_3 : decode cX4_tablesWithoutError 3 = .ok (.istore_n 2, 1) := by decide +kernel
theorem dX4_tablesWithoutError_4 : decode cX4_tablesWithoutError 4 = .ok (.iload_n 2, 1) := by decide +kernel
theorem dX4_tablesWithoutError_5 : decode cX4_tablesWithoutError 5 = .ok (.bipush 6, 2) := by decide +kernel
theorem dX4_tablesWithoutError_7 : decode cX4_tablesWithoutError 7 = .ok (.if_icmp .ge 29, 3) := by decide +kernel
theorem dX4_tablesWithoutError_10 : decode cX4_tablesWithoutError 10 = .ok (.aload_n 0, 1) := by decide +kernel
theorem dX4_tablesWithoutError_11 : decode cX4_tablesWithoutError 11 = .ok (.iload_n 2, 1) := by decide +kernel
theorem dX4_tablesWithoutError_12 : decode cX4_tablesWithoutError 12 = .ok (.invokevirtual 36, 3) := by decide +kernel
theorem dX4_tablesWithoutError_15 : decode cX4_tablesWithoutError 15 = .ok (.astore_n 3, 1) := by decide +kernel
theorem dX4_tablesWithoutError_16 : decode cX4_tablesWithoutError 16 = .ok (.aload_n 3, 1) := by decide +kernel
theorem dX4_tablesWithoutError_17 : decode cX4_tablesWithoutError 17 = .ok (.ifnull 13, 3) := by decide +kernel
theorem dX4_tablesWithoutError_20 : decode cX4_tablesWithoutError 20 = .ok (.aload_n 3, 1) := by decide +kernel
theorem dX4_tablesWithoutError_21 : decode cX4_tablesWithoutError 21 = .ok (.invokevirtual 136, 3) := by decide +kernel
theorem dX4_tablesWithoutError_24 : decode cX4_tablesWithoutError 24 = .ok (.ifCond .ne 6, 3) := by decide +kernel
theorem dX4_tablesWithoutError_27 : decode cX4_tablesWithoutError 27 = .ok (.iinc 1 1, 3) := by decide +kernel
theorem dX4_tablesWithoutError_30 : decode cX4_tablesWithoutError 30 = .ok (.iinc 2 1, 3) := by decide +kernel
theorem dX4_tablesWithoutError_33 : decode cX4_tablesWithoutError 33 = .ok (.goto (-29), 3) := by decide +kernel
theorem dX4_tablesWithoutError_36 : decode cX4_tablesWithoutError 36 = .ok (.iload_n 1, 1) := by decide +kernel
theorem dX4_tablesWithoutError_37 : decode cX4_tablesWithoutError 37 = .ok (.ireturn, 1) := by decide +kernel
set_option maxRecDepth 20000 in
theorem dX4_placeByError_0 : decode cX4_placeByError 0 = .ok (.aload_n 0, 1) := by decide +kernel
theorem dX4_placeByError_1 : decode cX4_placeByError 1 = .ok (.iload_n 1, 1) := by decide +kernel
theorem dX4_placeByError_2 : decode cX4_placeByError 2 = .ok (.invokevirtual 139, 3) := by decide +kernel
theorem dX4_placeByError_5 : decode cX4_placeByError 5 = .ok (.istore_n 2, 1) := by decide +kernel
theorem dX4_placeByError_6 : decode cX4_placeByError 6 = .ok (.iconst 0, 1) := by decide +kernel
theorem dX4_placeByError_7 : decode cX4_placeByError 7 = .ok (.istore_n 3, 1) := by decide +kernel
theorem dX4_placeByError_8 : decode cX4_placeByError 8 = .ok (.iconst 0, 1) := by decide +kernel
theorem dX4_placeByError_9 : decode cX4_placeByError 9 = .ok (.istore 4, 2) := by decide +kernel
theorem dX4_placeByError_11 : decode cX4_placeByError 11 = .ok (.iload 4, 2) := by decide +kernel
theorem dX4_placeByError_13 : decode cX4_placeByError 13 = .ok (.aload_n 0, 1) := by decide +kernel
theorem dX4_placeByError_14 : decode cX4_placeByError 14 = .ok (.getfield 25, 3) := by decide +kernel
theorem dX4_placeByError_17 : decode cX4_placeByError 17 = .ok (.if_icmp .ge 38, 3) := by decide +kernel
theorem dX4_placeByError_20 : decode cX4_placeByError 20 = .ok (.aload_n 0, 1) := by decide +kernel
theorem dX4_placeByError_21 : decode cX4_placeByError 21 = .ok (.iload 4, 2) := by decide +kernel
theorem dX4_placeByError_23 : decode cX4_placeByError 23 = .ok (.invokevirtual 139, 3) := by decide +kernel
theorem dX4_placeByError_26 : decode cX4_placeByError 26 = .ok (.istore 5, 2) := by decide +kernel
theorem dX4_placeByError_28 : decode cX4_placeByError 28 = .ok (.iload 5, 2) := by decide +kernel
theorem dX4_placeByError_30 : decode cX4_placeByError 30 = .ok (.iload_n 2, 1) := by decide +kernel
theorem dX4_placeByError_31 : decode cX4_placeByError 31 = .ok (.if_icmp .gt 15, 3) := by decide +kernel
theorem dX4_placeByError_34 : decode cX4_placeByError 34 = .ok (.iload 5, 2) := by decide +kernel
theorem dX4_placeByError_36 : decode cX4_placeByError 36 = .ok (.iload_n 2, 1) := by decide +kernel
theorem dX4_placeByError_37 : decode cX4_placeByError 37 = .ok (.if_icmp .ne 12, 3) := by decide +kernel
theorem dX4_placeByError_40 : decode cX4_placeByError 40 = .ok (.iload 4, 2) := by decide +kernel
theorem dX4_placeByError_42 : decode cX4_placeByError 42 = .ok (.iload_n 1, 1) := by decide +kernel
theorem dX4_placeByError_43 : decode cX4_placeByError 43 = .ok (.if_icmp .ge 6, 3) := by decide +kernel
theorem dX4_placeByError_46 : decode cX4_placeByError 46 = .ok (.iinc 3 1, 3) := by decide +kernel
theorem dX4_placeByError_49 : decode cX4_placeByError 49 = .ok (.iinc 4 1, 3) := by decide +kernel
theorem dX4_placeByError_52 : decode cX4_placeByError 52 = .ok (.goto (-41), 3) := by decide +kernel
theorem dX4_placeByError_55 : decode cX4_placeByError 55 = .ok (.iload_n 3, 1) := by decide +kernel
theorem dX4_placeByError_56 : decode cX4_placeByError 56 = .ok (.ireturn, 1) := by decide +kernel
set_option maxRecDepth 20000 in
theorem dX4_errorSize_0 : decode cX4_errorSize 0 = .ok (.aload_n 0, 1) := by decide +kernel
theorem dX4_errorSize_1 : decode cX4_errorSize 1 = .ok (.iload_n 1, 1) := by decide +kernel
theorem dX4_errorSize_2 : decode cX4_errorSize 2 = .ok (.invokevirtual 36, 3) := by decide +kernel
theorem dX4_errorSize_5 : decode cX4_errorSize 5 = .ok (.astore_n 2, 1) := by decide +kernel
theorem dX4_errorSize_6 : decode cX4_errorSize 6 = .ok (.aload_n 2, 1) := by decide +kernel
theorem dX4_errorSize_7 : decode cX4_errorSize 7 = .ok (.ifnonnull 7, 3) := by decide +kernel
theorem dX4_errorSize_10 : decode cX4_errorSize 10 = .ok (.iconst 0, 1) := by decide +kernel
theorem dX4_errorSize_11 : decode cX4_errorSize 11 = .ok (.goto 10, 3) := by decide +kernel
theorem dX4_errorSize_14 : decode cX4_errorSize 14 = .ok (.aload_n 2, 1) := by decide +kernel
theorem dX4_errorSize_15 : decode cX4_errorSize 15 = .ok (.invokevirtual 136, 3) := by decide +kernel
theorem dX4_errorSize_18 : decode cX4_errorSize 18 = .ok (.invokestatic 142, 3) := by decide +kernel
theorem dX4_errorSize_21 : decode cX4_errorSize 21 = .ok (.ireturn, 1) := by decide +kernel
set_option maxRecDepth 20000 in
theorem dX5_init_0 : decode cX5_init 0 = .ok (.aload_n 0, 1) := by decide +kernel
theorem dX5_init_1 : decode cX5_init 1 = .ok (.invokespecial 3, 3) := by decide +kernel
theorem dX5_init_4 : decode cX5_init 4 = .ok (.aload_n 0, 1) := by decide +kernel
theorem dX5_init_5 : decode cX5_init 5 = .ok (.new 9, 3) := by decide +kernel
theorem dX5_init_8 : decode cX5_init 8 = .ok (.dup, 1) := by decide +kernel
theorem dX5_init_9 : decode cX5_init 9 = .ok (.invokespecial 11, 3) := by decide +kernel
theorem dX5_init_12 : decode cX5_init 12 = .ok (.putfield 12, 3) := by decide +kernel
theorem dX5_init_15 : decode cX5_init 15 = .ok (.aload_n 0, 1) := by decide +kernel
theorem dX5_init_16 : decode cX5_init 16 = .ok (.sipush 1000, 3) := by decide +kernel
theorem dX5_init_19 : decode cX5_init 19 = .ok (.newarray .int, 2) := by decide +kernel
theorem dX5_init_21 : decode cX5_init 21 = .ok (.putfield 18, 3) := by decide +kernel
theorem dX5_init_24 : decode cX5_init 24 = .ok (.return_, 1) := by decide +kernel
set_option maxRecDepth 20000 in
theorem dX5_begin_0 : decode cX5_begin 0 = .ok (.aload_n 0, 1) := by decide +kernel
theorem dX5_begin_1 : decode cX5_begin 1 = .ok (.getfield 12, 3) := by decide +kernel
theorem dX5_begin_4 : decode cX5_begin 4 = .ok (.iload_n 1, 1) := by decide +kernel
theorem dX5_begin_5 : decode cX5_begin 5 = .ok (.iload_n 2, 1) := by decide +kernel
theorem dX5_begin_6 : decode cX5_begin 6 = .ok (.invokevirtual 22, 3) := by decide +kernel
theorem dX5_begin_9 : decode cX5_begin 9 = .ok (.aload_n 0, 1) := by decide +kernel
theorem dX5_begin_10 : decode cX5_begin 10 = .ok (.getfield 18, 3) := by decide +kernel
theorem dX5_begin_13 : decode cX5_begin 13 = .ok (.iconst (-1), 1) := by decide +kernel
theorem dX5_begin_14 : decode cX5_begin 14 = .ok (.invokestatic 26, 3) := by decide +kernel
theorem dX5_begin_17 : decode cX5_begin 17 = .ok (.aload_n 0, 1) := by decide +kernel
theorem dX5_begin_18 : decode cX5_begin 18 = .ok (.iconst 0, 1) := by decide +kernel
theorem dX5_begin_19 : decode cX5_begin 19 = .ok (.putfield 32, 3) := by decide +kernel
theorem dX5_begin_22 : decode cX5_begin 22 = .ok (.aload_n 0, 1) := by decide +kernel
theorem dX5_begin_23 : decode cX5_begin 23 = .ok (.iconst 0, 1) := by decide +kernel
theorem dX5_begin_24 : decode cX5_begin 24 = .ok (.putfield 36, 3) := by decide +kernel
theorem dX5_begin_27 : decode cX5_begin 27 = .ok (.return_, 1) := by decide +kernel
set_option maxRecDepth 20000 in
theorem dX5_beginAgain_0 : decode cX5_beginAgain 0 = .ok (.aload_n 0, 1) := by decide +kernel
theorem dX5_beginAgain_1 : decode cX5_beginAgain 1 = .ok (.getfield 36, 3) := by decide +kernel
theorem dX5_beginAgain_4 : decode cX5_beginAgain 4 = .ok (.istore_n 1, 1) := by decide +kernel
theorem dX5_beginAgain_5 : decode cX5_beginAgain 5 = .ok (.aload_n 0, 1) := by decide +kernel
theorem dX5_beginAgain_6 : decode cX5_beginAgain 6 = .ok (.aload_n 0, 1) := by decide +kernel
theorem dX5_beginAgain_7 : decode cX5_beginAgain 7 = .ok (.getfield 12, 3) := by decide +kernel
theorem dX5_beginAgain_10 : decode cX5_beginAgain 10 = .ok (.getfield 39, 3) := by decide +kernel
theorem dX5_beginAgain_13 : decode cX5_beginAgain 13 = .ok (.aload_n 0, 1) := by decide +kernel
theorem dX5_beginAgain_14 : decode cX5_beginAgain 14 = .ok (.getfield 12, 3) := by decide +kernel
theorem dX5_beginAgain_17 : decode cX5_beginAgain 17 = .ok (.getfield 42, 3) := by decide +kernel
theorem dX5_beginAgain_20 : decode cX5_beginAgain 20 = .ok (.invokevirtual 45, 3) := by decide +kernel
theorem dX5_beginAgain_23 : decode cX5_beginAgain 23 = .ok (.aload_n 0, 1) := by decide +kernel
theorem dX5_beginAgain_24 : decode cX5_beginAgain 24 = .ok (.iload_n 1, 1) := by decide +kernel
theorem dX5_beginAgain_25 : decode cX5_beginAgain 25 = .ok (.iconst 1, 1) := by decide +kernel
theorem dX5_beginAgain_26 : decode cX5_beginAgain 26 = .ok (.iadd, 1) := by decide +kernel
theorem dX5_beginAgain_27 : decode cX5_beginAgain 27 = .ok (.putfield 36, 3) := by decide +kernel
theorem dX5_beginAgain_30 : decode cX5_beginAgain 30 = .ok (.return_, 1) := by decide +kernel
set_option maxRecDepth 20000 in
theorem dX5_copyFrom_0 : decode cX5_copyFrom 0 = .ok (.aload_n 0, 1) := by decide +kernel
theorem dX5_copyFrom_1 : decode cX5_copyFrom 1 = .ok (.getfield 12, 3) := by decide +kernel
theorem dX5_copyFrom_4 : decode cX5_copyFrom 4 = .ok (.aload_n 1, 1) := by decide +kernel
theorem dX5_copyFrom_5 : decode cX5_copyFrom 5 = .ok (.getfield 12, 3) := by decide +kernel
theorem dX5_copyFrom_8 : decode cX5_copyFrom 8 = .ok (.invokevirtual 46, 3) := by decide +kernel
theorem dX5_copyFrom_11 : decode cX5_copyFrom 11 = .ok (.aload_n 1, 1) := by decide +kernel
theorem dX5_copyFrom_12 : decode cX5_copyFrom 12 = .ok (.getfield 18, 3) := by decide +kernel
theorem dX5_copyFrom_15 : decode cX5_copyFrom 15 = .ok (.iconst 0, 1) := by decide +kernel
theorem dX5_copyFrom_16 : decode cX5_copyFrom 16 = .ok (.aload_n 0, 1) := by decide +kernel
theorem dX5_copyFrom_17 : decode cX5_copyFrom 17 = .ok (.getfield 18, 3) := by decide +kernel
theorem dX5_copyFrom_20 : decode cX5_copyFrom 20 = .ok (.iconst 0, 1) := by decide +kernel
theorem dX5_copyFrom_21 : decode cX5_copyFrom 21 = .ok (.sipush 1000, 3) := by decide +kernel
theorem dX5_copyFrom_24 : decode cX5_copyFrom 24 = .ok (.invokestatic 50, 3) := by decide +kernel
theorem dX5_copyFrom_27 : decode cX5_copyFrom 27 = .ok (.aload_n 0, 1) := by decide +kernel
theorem dX5_copyFrom_28 : decode cX5_copyFrom 28 = .ok (.aload_n 1, 1) := by decide +kernel
theorem dX5_copyFrom_29 : decode cX5_copyFrom 29 = .ok (.getfield 32, 3) := by decide +kernel
theorem dX5_copyFrom_32 : decode cX5_copyFrom 32 = .ok (.putfield 32, 3) := by decide +kernel
theorem dX5_copyFrom_35 : decode cX5_copyFrom 35 = .ok (.aload_n 0, 1) := by decide +kernel
theorem dX5_copyFrom_36 : decode cX5_copyFrom 36 = .ok (.aload_n 1, 1) := by decide +kernel
theorem dX5_copyFrom_37 : decode cX5_copyFrom 37 = .ok (.getfield 36, 3) := by decide +kernel
theorem dX5_copyFrom_40 : decode cX5_copyFrom 40 = .ok (.putfield 36, 3) := by decide +kernel
theorem dX5_copyFrom_43 : decode cX5_copyFrom 43 = .ok (.return_, 1) := by decide +kernel
set_option maxRecDepth 20000 in
theorem dX5_saw_0 : decode cX5_saw 0 = .ok (.aload_n 0, 1) := by decide +kernel
theorem dX5_saw_1 : decode cX5_saw 1 = .ok (.iload_n 1, 1) := by decide +kernel
theorem dX5_saw_2 : decode cX5_saw 2 = .ok (.invokevirtual 56, 3) := by decide +kernel
theorem dX5_saw_5 : decode cX5_saw 5 = .ok (.iconst (-1), 1) := by decide +kernel
theorem dX5_saw_6 : decode cX5_saw 6 = .ok (.if_icmp .eq 7, 3) := by decide +kernel
theorem dX5_saw_9 : decode cX5_saw 9 = .ok (.iconst 1, 1) := by decide +kernel
theorem dX5_saw_10 : decode cX5_saw 10 = .ok (.goto 4, 3) := by decide +kernel
theorem dX5_saw_13 : decode cX5_saw 13 = .ok (.iconst 0, 1) := by decide +kernel
theorem dX5_saw_14 : decode cX5_saw 14 = .ok (.ireturn, 1) := by decide +kernel
set_option maxRecDepth 20000 in
theorem dX5_timeOf_0 : decode cX5_timeOf 0 = .ok (.iload_n 1, 1) := by decide +kernel
theorem dX5_timeOf_1 : decode cX5_timeOf 1 = .ok (.invokestatic 60, 3) := by decide +kernel
theorem dX5_timeOf_4 : decode cX5_timeOf 4 = .ok (.ifCond .eq 12, 3) := by decide +kernel
theorem dX5_timeOf_7 : decode cX5_timeOf 7 = .ok (.aload_n 0, 1) := by decide +kernel
theorem dX5_timeOf_8 : decode cX5_timeOf 8 = .ok (.getfield 18, 3) := by decide +kernel
theorem dX5_timeOf_11 : decode cX5_timeOf 11 = .ok (.iload_n 1, 1) := by decide +kernel
theorem dX5_timeOf_12 : decode cX5_timeOf 12 = .ok (.iaload, 1) := by decide +kernel
theorem dX5_timeOf_13 : decode cX5_timeOf 13 = .ok (.goto 4, 3) := by decide +kernel
theorem dX5_timeOf_16 : decode cX5_timeOf 16 = .ok (.iconst (-1), 1) := by decide +kernel
theorem dX5_timeOf_17 : decode cX5_timeOf 17 = .ok (.ireturn, 1) := by decide +kernel
set_option maxRecDepth 20000 in
theorem dX5_knowAllOf_0 : decode cX5_knowAllOf 0 = .ok (.iconst 0, 1) := by decide +kernel
theorem dX5_knowAllOf_1 : decode cX5_knowAllOf 1 = .ok (.istore_n 2, 1) := by decide +kernel
theorem dX5_knowAllOf_2 : decode cX5_knowAllOf 2 = .ok (.iload_n 2, 1) := by decide +kernel
theorem dX5_knowAllOf_3 : decode cX5_knowAllOf 3 = .ok (.sipush 1000, 3) := by decide +kernel
theorem dX5_knowAllOf_6 : decode cX5_knowAllOf 6 = .ok (.if_icmp .ge 30, 3) := by decide +kernel
theorem dX5_knowAllOf_9 : decode cX5_knowAllOf 9 = .ok (.aload_n 1, 1) := by decide +kernel
theorem dX5_knowAllOf_10 : decode cX5_knowAllOf 10 = .ok (.getfield 18, 3) := by decide +kernel
theorem dX5_knowAllOf_13 : decode cX5_knowAllOf 13 = .ok (.iload_n 2, 1) := by decide +kernel
theorem dX5_knowAllOf_14 : decode cX5_knowAllOf 14 = .ok (.iaload, 1) := by decide +kernel
theorem dX5_knowAllOf_15 : decode cX5_knowAllOf 15 = .ok (.iconst (-1), 1) := by decide +kernel
theorem dX5_knowAllOf_16 : decode cX5_knowAllOf 16 = .ok (.if_icmp .eq 14, 3) := by decide +kernel
theorem dX5_knowAllOf_19 : decode cX5_knowAllOf 19 = .ok (.aload_n 0, 1) := by decide +kernel
theorem dX5_knowAllOf_20 : decode cX5_knowAllOf 20 = .ok (.iload_n 2, 1) := by decide +kernel
theorem dX5_knowAllOf_21 : decode cX5_knowAllOf 21 = .ok (.aload_n 1, 1) := by decide +kernel
theorem dX5_knowAllOf_22 : decode cX5_knowAllOf 22 = .ok (.getfield 18, 3) := by decide +kernel
theorem dX5_knowAllOf_25 : decode cX5_knowAllOf 25 = .ok (.iload_n 2, 1) := by decide +kernel
theorem dX5_knowAllOf_26 : decode cX5_knowAllOf 26 = .ok (.iaload, 1) := by decide +kernel
theorem dX5_knowAllOf_27 : decode cX5_knowAllOf 27 = .ok (.invokevirtual 64, 3) := by decide +kernel
theorem dX5_knowAllOf_30 : decode cX5_knowAllOf 30 = .ok (.iinc 2 1, 3) := by decide +kernel
theorem dX5_knowAllOf_33 : decode cX5_knowAllOf 33 = .ok (.goto (-31), 3) := by decide +kernel
theorem dX5_knowAllOf_36 : decode cX5_knowAllOf 36 = .ok (.return_, 1) := by decide +kernel
set_option maxRecDepth 20000 in
theorem dX5_know_0 : decode cX5_know 0 = .ok (.iload_n 1, 1) := by decide +kernel
theorem dX5_know_1 : decode cX5_know 1 = .ok (.invokestatic 60, 3) := by decide +kernel
theorem dX5_know_4 : decode cX5_know 4 = .ok (.ifCond .ne 4, 3) := by decide +kernel
theorem dX5_know_7 : decode cX5_know 7 = .ok (.return_, 1) := by decide +kernel
theorem dX5_know_8 : decode cX5_know 8 = .ok (.aload_n 0, 1) := by decide +kernel
theorem dX5_know_9 : decode cX5_know 9 = .ok (.getfield 18, 3) := by decide +kernel
theorem dX5_know_12 : decode cX5_know 12 = .ok (.iload_n 1, 1) := by decide +kernel
theorem dX5_know_13 : decode cX5_know 13 = .ok (.iaload, 1) := by decide +kernel
theorem dX5_know_14 : decode cX5_know 14 = .ok (.iconst (-1), 1) := by decide +kernel
theorem dX5_know_15 : decode cX5_know 15 = .ok (.if_icmp .ne 23, 3) := by decide +kernel
theorem dX5_know_18 : decode cX5_know 18 = .ok (.aload_n 0, 1) := by decide +kernel
theorem dX5_know_19 : decode cX5_know 19 = .ok (.getfield 18, 3) := by decide +kernel
theorem dX5_know_22 : decode cX5_know 22 = .ok (.iload_n 1, 1) := by decide +kernel
theorem dX5_know_23 : decode cX5_know 23 = .ok (.iload_n 2, 1) := by decide +kernel
theorem dX5_know_24 : decode cX5_know 24 = .ok (.iastore, 1) := by decide +kernel
theorem dX5_know_25 : decode cX5_know 25 = .ok (.aload_n 0, 1) := by decide +kernel
theorem dX5_know_26 : decode cX5_know 26 = .ok (.dup, 1) := by decide +kernel
theorem dX5_know_27 : decode cX5_know 27 = .ok (.getfield 32, 3) := by decide +kernel
theorem dX5_know_30 : decode cX5_know 30 = .ok (.iconst 1, 1) := by decide +kernel
theorem dX5_know_31 : decode cX5_know 31 = .ok (.iadd, 1) := by decide +kernel
theorem dX5_know_32 : decode cX5_know 32 = .ok (.putfield 32, 3) := by decide +kernel
theorem dX5_know_35 : decode cX5_know 35 = .ok (.goto 19, 3) := by decide +kernel
theorem dX5_know_38 : decode cX5_know 38 = .ok (.aload_n 0, 1) := by decide +kernel
theorem dX5_know_39 : decode cX5_know 39 = .ok (.getfield 18, 3) := by decide +kernel
theorem dX5_know_42 : decode cX5_know 42 = .ok (.iload_n 1, 1) := by decide +kernel
theorem dX5_know_43 : decode cX5_know 43 = .ok (.aload_n 0, 1) := by decide +kernel
theorem dX5_know_44 : decode cX5_know 44 = .ok (.getfield 18, 3) := by decide +kernel
theorem dX5_know_47 : decode cX5_know 47 = .ok (.iload_n 1, 1) := by decide +kernel
theorem dX5_know_48 : decode cX5_know 48 = .ok (.iaload, 1) := by decide +kernel
theorem dX5_know_49 : decode cX5_know 49 = .ok (.iload_n 2, 1) := by decide +kernel
theorem dX5_know_50 : decode cX5_know 50 = .ok (.invokestatic 67, 3) := by decide +kernel
theorem dX5_know_53 : decode cX5_know 53 = .ok (.iastore, 1) := by decide +kernel
theorem dX5_know_54 : decode cX5_know 54 = .ok (.return_, 1) := by decide +kernel
theorem dX5_thingAt_0 : decode cX5_thingAt 0 = .ok (.iconst 0, 1) := by decide +kernel
theorem dX5_thingAt_1 : decode cX5_thingAt 1 = .ok (.istore_n 2, 1) := by decide +kernel
theorem dX5_thingAt_2 : decode cX5_thingAt 2 = .ok (.iconst 0, 1) := by decide +kernel
theorem dX5_thingAt_3 : decode cX5_thingAt 3 = .ok (.istore_n 3, 1) := by decide +kernel
theorem dX5_thingAt_4 : decode cX5_thingAt 4 = .ok (.iload_n 3, 1) := by decide +kernel
theorem dX5_thingAt_5 : decode cX5_thingAt 5 = .ok (.sipush 1000, 3) := by decide +kernel
theorem dX5_thingAt_8 : decode cX5_thingAt 8 = .ok (.if_icmp .ge 29, 3) := by decide +kernel
theorem dX5_thingAt_11 : decode cX5_thingAt 11 = .ok (.aload_n 0, 1) := by decide +kernel
theorem dX5_thingAt_12 : decode cX5_thingAt 12 = .ok (.getfield 18, 3) := by decide +kernel
theorem dX5_thingAt_15 : decode cX5_thingAt 15 = .ok (.iload_n 3, 1) := by decide +kernel
theorem dX5_thingAt_16 : decode cX5_thingAt 16 = .ok (.iaload, 1) := by decide +kernel
theorem dX5_thingAt_17 : decode cX5_thingAt 17 = .ok (.iconst (-1), 1) := by decide +kernel
theorem dX5_thingAt_18 : decode cX5_thingAt 18 = .ok (.if_icmp .eq 13, 3) := by decide +kernel
theorem dX5_thingAt_21 : decode cX5_thingAt 21 = .ok (.iload_n 2, 1) := by decide +kernel
theorem dX5_thingAt_22 : decode cX5_thingAt 22 = .ok (.iload_n 1, 1) := by decide +kernel
theorem dX5_thingAt_23 : decode cX5_thingAt 23 = .ok (.if_icmp .ne 5, 3) := by decide +kernel
theorem dX5_thingAt_26 : decode cX5_thingAt 26 = .ok (.iload_n 3, 1) := by decide +kernel
theorem dX5_thingAt_27 : decode cX5_thingAt 27 = .ok (.ireturn, 1) := by decide +kernel
theorem dX5_thingAt_28 : decode cX5_thingAt 28 = .ok (.iinc 2 1, 3) := by decide +kernel
theorem dX5_thingAt_31 : decode cX5_thingAt 31 = .ok (.iinc 3 1, 3) := by decide +kernel
theorem dX5_thingAt_34 : decode cX5_thingAt 34 = .ok (.goto (-30), 3) := by decide +kernel
theorem dX5_thingAt_37 : decode cX5_thingAt 37 = .ok (.iconst (-1), 1) := by decide +kernel
theorem dX5_thingAt_38 : decode cX5_thingAt 38 = .ok (.ireturn, 1) := by decide +kernel
theorem dX5_sawToo_0 : decode cX5_sawToo 0 = .ok (.iconst 0, 1) := by decide +kernel
theorem dX5_sawToo_1 : decode cX5_sawToo 1 = .ok (.istore_n 2, 1) := by decide +kernel
theorem dX5_sawToo_2 : decode cX5_sawToo 2 = .ok (.iconst 0, 1) := by decide +kernel
theorem dX5_sawToo_3 : decode cX5_sawToo 3 = .ok (.istore_n 3, 1) := by decide +kernel
theorem dX5_sawToo_4 : decode cX5_sawToo 4 = .ok (.iload_n 3, 1) := by decide +kernel
theorem dX5_sawToo_5 : decode cX5_sawToo 5 = .ok (.sipush 1000, 3) := by decide +kernel
theorem dX5_sawToo_8 : decode cX5_sawToo 8 = .ok (.if_icmp .ge 32, 3) := by decide +kernel
theorem dX5_sawToo_11 : decode cX5_sawToo 11 = .ok (.aload_n 0, 1) := by decide +kernel
theorem dX5_sawToo_12 : decode cX5_sawToo 12 = .ok (.getfield 18, 3) := by decide +kernel
theorem dX5_sawToo_15 : decode cX5_sawToo 15 = .ok (.iload_n 3, 1) := by decide +kernel
theorem dX5_sawToo_16 : decode cX5_sawToo 16 = .ok (.iaload, 1) := by decide +kernel
theorem dX5_sawToo_17 : decode cX5_sawToo 17 = .ok (.iconst (-1), 1) := by decide +kernel
theorem dX5_sawToo_18 : decode cX5_sawToo 18 = .ok (.if_icmp .eq 16, 3) := by decide +kernel
theorem dX5_sawToo_21 : decode cX5_sawToo 21 = .ok (.aload_n 1, 1) := by decide +kernel
theorem dX5_sawToo_22 : decode cX5_sawToo 22 = .ok (.getfield 18, 3) := by decide +kernel
theorem dX5_sawToo_25 : decode cX5_sawToo 25 = .ok (.iload_n 3, 1) := by decide +kernel
theorem dX5_sawToo_26 : decode cX5_sawToo 26 = .ok (.iaload, 1) := by decide +kernel
theorem dX5_sawToo_27 : decode cX5_sawToo 27 = .ok (.iconst (-1), 1) := by decide +kernel
theorem dX5_sawToo_28 : decode cX5_sawToo 28 = .ok (.if_icmp .eq 6, 3) := by decide +kernel
theorem dX5_sawToo_31 : decode cX5_sawToo 31 = .ok (.iinc 2 1, 3) := by decide +kernel
theorem dX5_sawToo_34 : decode cX5_sawToo 34 = .ok (.iinc 3 1, 3) := by decide +kernel
theorem dX5_sawToo_37 : decode cX5_sawToo 37 = .ok (.goto (-33), 3) := by decide +kernel
theorem dX5_sawToo_40 : decode cX5_sawToo 40 = .ok (.iload_n 2, 1) := by decide +kernel
theorem dX5_sawToo_41 : decode cX5_sawToo 41 = .ok (.ireturn, 1) := by decide +kernel
set_option maxRecDepth 20000 in
theorem dX5_sawEither_0 : decode cX5_sawEither 0 = .ok (.aload_n 0, 1) := by decide +kernel
theorem dX5_sawEither_1 : decode cX5_sawEither 1 = .ok (.getfield 32, 3) := by decide +kernel
theorem dX5_sawEither_4 : decode cX5_sawEither 4 = .ok (.aload_n 1, 1) := by decide +kernel
theorem dX5_sawEither_5 : decode cX5_sawEither 5 = .ok (.getfield 32, 3) := by decide +kernel
theorem dX5_sawEither_8 : decode cX5_sawEither 8 = .ok (.iadd, 1) := by decide +kernel
theorem dX5_sawEither_9 : decode cX5_sawEither 9 = .ok (.aload_n 0, 1) := by decide +kernel
theorem dX5_sawEither_10 : decode cX5_sawEither 10 = .ok (.aload_n 1, 1) := by decide +kernel
theorem dX5_sawEither_11 : decode cX5_sawEither 11 = .ok (.invokevirtual 73, 3) := by decide +kernel
theorem dX5_sawEither_14 : decode cX5_sawEither 14 = .ok (.isub, 1) := by decide +kernel
theorem dX5_sawEither_15 : decode cX5_sawEither 15 = .ok (.ireturn, 1) := by decide +kernel
set_option maxRecDepth 20000 in
theorem dX5_error_0 : decode cX5_error 0 = .ok (.aload_n 0, 1) := by decide +kernel
theorem dX5_error_1 : decode cX5_error 1 = .ok (.getfield 12, 3) := by decide +kernel
theorem dX5_error_4 : decode cX5_error 4 = .ok (.invokevirtual 77, 3) := by decide +kernel
theorem dX5_error_7 : decode cX5_error 7 = .ok (.aload_n 0, 1) := by decide +kernel
theorem dX5_error_8 : decode cX5_error 8 = .ok (.getfield 32, 3) := by decide +kernel
theorem dX5_error_11 : decode cX5_error 11 = .ok (.isub, 1) := by decide +kernel
theorem dX5_error_12 : decode cX5_error 12 = .ok (.ireturn, 1) := by decide +kernel
set_option maxRecDepth 20000 in
theorem dX5_property_0 : decode cX5_property 0 = .ok (.iload_n 1, 1) := by decide +kernel
theorem dX5_property_1 : decode cX5_property 1 = .ok (.tableswitch 118 0 8 #[51, 59, 67, 75, 80, 88, 96, 105, 113], 51) := by decide +kernel
theorem dX5_property_52 : decode cX5_property 52 = .ok (.aload_n 0, 1) := by decide +kernel
theorem dX5_property_53 : decode cX5_property 53 = .ok (.getfield 12, 3) := by decide +kernel
theorem dX5_property_56 : decode cX5_property 56 = .ok (.getfield 39, 3) := by decide +kernel
theorem dX5_property_59 : decode cX5_property 59 = .ok (.ireturn, 1) := by decide +kernel
theorem dX5_property_60 : decode cX5_property 60 = .ok (.aload_n 0, 1) := by decide +kernel
theorem dX5_property_61 : decode cX5_property 61 = .ok (.getfield 12, 3) := by decide +kernel
theorem dX5_property_64 : decode cX5_property 64 = .ok (.getfield 42, 3) := by decide +kernel
theorem dX5_property_67 : decode cX5_property 67 = .ok (.ireturn, 1) := by decide +kernel
theorem dX5_property_68 : decode cX5_property 68 = .ok (.aload_n 0, 1) := by decide +kernel
theorem dX5_property_69 : decode cX5_property 69 = .ok (.getfield 12, 3) := by decide +kernel
theorem dX5_property_72 : decode cX5_property 72 = .ok (.invokevirtual 77, 3) := by decide +kernel
theorem dX5_property_75 : decode cX5_property 75 = .ok (.ireturn, 1) := by decide +kernel
theorem dX5_property_76 : decode cX5_property 76 = .ok (.aload_n 0, 1) := by decide +kernel
theorem dX5_property_77 : decode cX5_property 77 = .ok (.getfield 32, 3) := by decide +kernel
theorem dX5_property_80 : decode cX5_property 80 = .ok (.ireturn, 1) := by decide +kernel
theorem dX5_property_81 : decode cX5_property 81 = .ok (.aload_n 0, 1) := by decide +kernel
theorem dX5_property_82 : decode cX5_property 82 = .ok (.getfield 12, 3) := by decide +kernel
theorem dX5_property_85 : decode cX5_property 85 = .ok (.invokevirtual 81, 3) := by decide +kernel
theorem dX5_property_88 : decode cX5_property 88 = .ok (.ireturn, 1) := by decide +kernel
theorem dX5_property_89 : decode cX5_property 89 = .ok (.aload_n 0, 1) := by decide +kernel
theorem dX5_property_90 : decode cX5_property 90 = .ok (.getfield 12, 3) := by decide +kernel
theorem dX5_property_93 : decode cX5_property 93 = .ok (.invokevirtual 84, 3) := by decide +kernel
theorem dX5_property_96 : decode cX5_property 96 = .ok (.ireturn, 1) := by decide +kernel
theorem dX5_property_97 : decode cX5_property 97 = .ok (.aload_n 0, 1) := by decide +kernel
theorem dX5_property_98 : decode cX5_property 98 = .ok (.invokevirtual 87, 3) := by decide +kernel
theorem dX5_property_101 : decode cX5_property 101 = .ok (.sipush 1000, 3) := by decide +kernel
theorem dX5_property_104 : decode cX5_property 104 = .ok (.iadd, 1) := by decide +kernel
theorem dX5_property_105 : decode cX5_property 105 = .ok (.ireturn, 1) := by decide +kernel
theorem dX5_property_106 : decode cX5_property 106 = .ok (.aload_n 0, 1) := by decide +kernel
theorem dX5_property_107 : decode cX5_property 107 = .ok (.getfield 12, 3) := by decide +kernel
theorem dX5_property_110 : decode cX5_property 110 = .ok (.getfield 90, 3) := by decide +kernel
theorem dX5_property_113 : decode cX5_property 113 = .ok (.ireturn, 1) := by decide +kernel
theorem dX5_property_114 : decode cX5_property 114 = .ok (.aload_n 0, 1) := by decide +kernel
theorem dX5_property_115 : decode cX5_property 115 = .ok (.getfield 36, 3) := by decide +kernel
theorem dX5_property_118 : decode cX5_property 118 = .ok (.ireturn, 1) := by decide +kernel
theorem dX5_property_119 : decode cX5_property 119 = .ok (.aload_n 0, 1) := by decide +kernel
theorem dX5_property_120 : decode cX5_property 120 = .ok (.getfield 12, 3) := by decide +kernel
theorem dX5_property_123 : decode cX5_property 123 = .ok (.invokevirtual 93, 3) := by decide +kernel
theorem dX5_property_126 : decode cX5_property 126 = .ok (.ireturn, 1) := by decide +kernel
theorem dX6_init_0 : decode cX6_init 0 = .ok (.aload_n 0, 1) := by decide +kernel
theorem dX6_init_1 : decode cX6_init 1 = .ok (.invokespecial 3, 3) := by decide +kernel
theorem dX6_init_4 : decode cX6_init 4 = .ok (.aload_n 0, 1) := by decide +kernel
theorem dX6_init_5 : decode cX6_init 5 = .ok (.bipush 80, 2) := by decide +kernel
theorem dX6_init_7 : decode cX6_init 7 = .ok (.newarray .char, 2) := by decide +kernel
theorem dX6_init_9 : decode cX6_init 9 = .ok (.putfield 9, 3) := by decide +kernel
theorem dX6_init_12 : decode cX6_init 12 = .ok (.return_, 1) := by decide +kernel
theorem dX6_append_0 : decode cX6_append 0 = .ok (.aload_n 0, 1) := by decide +kernel
theorem dX6_append_1 : decode cX6_append 1 = .ok (.getfield 15, 3) := by decide +kernel
theorem dX6_append_4 : decode cX6_append 4 = .ok (.ifCond .lt 12, 3) := by decide +kernel
theorem dX6_append_7 : decode cX6_append 7 = .ok (.aload_n 0, 1) := by decide +kernel
theorem dX6_append_8 : decode cX6_append 8 = .ok (.getfield 15, 3) := by decide +kernel
theorem dX6_append_11 : decode cX6_append 11 = .ok (.bipush 80, 2) := by decide +kernel
theorem dX6_append_13 : decode cX6_append 13 = .ok (.if_icmp .lt 5, 3) := by decide +kernel
theorem dX6_append_16 : decode cX6_append 16 = .ok (.iconst 0, 1) := by decide +kernel
theorem dX6_append_17 : decode cX6_append 17 = .ok (.ireturn, 1) := by decide +kernel
theorem dX6_append_18 : decode cX6_append 18 = .ok (.aload_n 0, 1) := by decide +kernel
theorem dX6_append_19 : decode cX6_append 19 = .ok (.getfield 9, 3) := by decide +kernel
theorem dX6_append_22 : decode cX6_append 22 = .ok (.aload_n 0, 1) := by decide +kernel
theorem dX6_append_23 : decode cX6_append 23 = .ok (.getfield 15, 3) := by decide +kernel
theorem dX6_append_26 : decode cX6_append 26 = .ok (.iload_n 1, 1) := by decide +kernel
theorem dX6_append_27 : decode cX6_append 27 = .ok (.castore, 1) := by decide +kernel
theorem dX6_append_28 : decode cX6_append 28 = .ok (.aload_n 0, 1) := by decide +kernel
theorem dX6_append_29 : decode cX6_append 29 = .ok (.dup, 1) := by decide +kernel
theorem dX6_append_30 : decode cX6_append 30 = .ok (.getfield 15, 3) := by decide +kernel
theorem dX6_append_33 : decode cX6_append 33 = .ok (.iconst 1, 1) := by decide +kernel
theorem dX6_append_34 : decode cX6_append 34 = .ok (.iadd, 1) := by decide +kernel
theorem dX6_append_35 : decode cX6_append 35 = .ok (.putfield 15, 3) := by decide +kernel
theorem dX6_append_38 : decode cX6_append 38 = .ok (.iconst 1, 1) := by decide +kernel
theorem dX6_append_39 : decode cX6_append 39 = .ok (.ireturn, 1) := by decide +kernel
theorem dX6_empty_0 : decode cX6_empty 0 = .ok (.aload_n 0, 1) := by decide +kernel
theorem dX6_empty_1 : decode cX6_empty 1 = .ok (.getfield 15, 3) := by decide +kernel
theorem dX6_empty_4 : decode cX6_empty 4 = .ok (.istore_n 1, 1) := by decide +kernel
theorem dX6_empty_5 : decode cX6_empty 5 = .ok (.aload_n 0, 1) := by decide +kernel
theorem dX6_empty_6 : decode cX6_empty 6 = .ok (.iconst 0, 1) := by decide +kernel
theorem dX6_empty_7 : decode cX6_empty 7 = .ok (.putfield 15, 3) := by decide +kernel
theorem dX6_empty_10 : decode cX6_empty 10 = .ok (.iload_n 1, 1) := by decide +kernel
theorem dX6_empty_11 : decode cX6_empty 11 = .ok (.ireturn, 1) := by decide +kernel
theorem dX6_signAt_0 : decode cX6_signAt 0 = .ok (.iload_n 1, 1) := by decide +kernel
theorem dX6_signAt_1 : decode cX6_signAt 1 = .ok (.ifCond .lt 26, 3) := by decide +kernel
theorem dX6_signAt_4 : decode cX6_signAt 4 = .ok (.iload_n 1, 1) := by decide +kernel
theorem dX6_signAt_5 : decode cX6_signAt 5 = .ok (.aload_n 0, 1) := by decide +kernel
theorem dX6_signAt_6 : decode cX6_signAt 6 = .ok (.getfield 15, 3) := by decide +kernel
theorem dX6_signAt_9 : decode cX6_signAt 9 = .ok (.if_icmp .ge 18, 3) := by decide +kernel
theorem dX6_signAt_12 : decode cX6_signAt 12 = .ok (.iload_n 1, 1) := by decide +kernel
theorem dX6_signAt_13 : decode cX6_signAt 13 = .ok (.bipush 80, 2) := by decide +kernel
theorem dX6_signAt_15 : decode cX6_signAt 15 = .ok (.if_icmp .ge 12, 3) := by decide +kernel
theorem dX6_signAt_18 : decode cX6_signAt 18 = .ok (.aload_n 0, 1) := by decide +kernel
theorem dX6_signAt_19 : decode cX6_signAt 19 = .ok (.getfield 9, 3) := by decide +kernel
theorem dX6_signAt_22 : decode cX6_signAt 22 = .ok (.iload_n 1, 1) := by decide +kernel
theorem dX6_signAt_23 : decode cX6_signAt 23 = .ok (.caload, 1) := by decide +kernel
theorem dX6_signAt_24 : decode cX6_signAt 24 = .ok (.goto 4, 3) := by decide +kernel
theorem dX6_signAt_27 : decode cX6_signAt 27 = .ok (.iconst 0, 1) := by decide +kernel
theorem dX6_signAt_28 : decode cX6_signAt 28 = .ok (.ireturn, 1) := by decide +kernel
set_option maxRecDepth 20000 in
theorem dX6_digitsAt_0 : decode cX6_digitsAt 0 = .ok (.iconst 0, 1) := by decide +kernel
theorem dX6_digitsAt_1 : decode cX6_digitsAt 1 = .ok (.istore_n 2, 1) := by decide +kernel
theorem dX6_digitsAt_2 : decode cX6_digitsAt 2 = .ok (.iload_n 2, 1) := by decide +kernel
theorem dX6_digitsAt_3 : decode cX6_digitsAt 3 = .ok (.iconst 3, 1) := by decide +kernel
theorem dX6_digitsAt_4 : decode cX6_digitsAt 4 = .ok (.if_icmp .ge 33, 3) := by decide +kernel
theorem dX6_digitsAt_7 : decode cX6_digitsAt 7 = .ok (.aload_n 0, 1) := by decide +kernel
theorem dX6_digitsAt_8 : decode cX6_digitsAt 8 = .ok (.iload_n 1, 1) := by decide +kernel
theorem dX6_digitsAt_9 : decode cX6_digitsAt 9 = .ok (.iload_n 2, 1) := by decide +kernel
theorem dX6_digitsAt_10 : decode cX6_digitsAt 10 = .ok (.iadd, 1) := by decide +kernel
theorem dX6_digitsAt_11 : decode cX6_digitsAt 11 = .ok (.invokevirtual 19, 3) := by decide +kernel
theorem dX6_digitsAt_14 : decode cX6_digitsAt 14 = .ok (.bipush 48, 2) := by decide +kernel
theorem dX6_digitsAt_16 : decode cX6_digitsAt 16 = .ok (.if_icmp .lt 21, 3) := by decide +kernel
theorem dX6_digitsAt_19 : decode cX6_digitsAt 19 = .ok (.aload_n 0, 1) := by decide +kernel
theorem dX6_digitsAt_20 : decode cX6_digitsAt 20 = .ok (.iload_n 1, 1) := by decide +kernel
theorem dX6_digitsAt_21 : decode cX6_digitsAt 21 = .ok (.iload_n 2, 1) := by decide +kernel
theorem dX6_digitsAt_22 : decode cX6_digitsAt 22 = .ok (.iadd, 1) := by decide +kernel
theorem dX6_digitsAt_23 : decode cX6_digitsAt 23 = .ok (.invokevirtual 19, 3) := by decide +kernel
theorem dX6_digitsAt_26 : decode cX6_digitsAt 26 = .ok (.bipush 57, 2) := by decide +kernel
theorem dX6_digitsAt_28 : decode cX6_digitsAt 28 = .ok (.if_icmp .gt 9, 3) := by decide +kernel
theorem dX6_digitsAt_31 : decode cX6_digitsAt 31 = .ok (.iinc 2 1, 3) := by decide +kernel
theorem dX6_digitsAt_34 : decode cX6_digitsAt 34 = .ok (.goto (-32), 3) := by decide +kernel
theorem dX6_digitsAt_37 : decode cX6_digitsAt 37 = .ok (.iload_n 2, 1) := by decide +kernel
theorem dX6_digitsAt_38 : decode cX6_digitsAt 38 = .ok (.ireturn, 1) := by decide +kernel
set_option maxRecDepth 20000 in
theorem dX6_numberAt_0 : decode cX6_numberAt 0 = .ok (.iconst 0, 1) := by decide +kernel
theorem dX6_numberAt_1 : decode cX6_numberAt 1 = .ok (.istore_n 3, 1) := by decide +kernel
theorem dX6_numberAt_2 : decode cX6_numberAt 2 = .ok (.iconst 0, 1) := by decide +kernel
theorem dX6_numberAt_3 : decode cX6_numberAt 3 = .ok (.istore 4, 2) := by decide +kernel
theorem dX6_numberAt_5 : decode cX6_numberAt 5 = .ok (.iload 4, 2) := by decide +kernel
theorem dX6_numberAt_7 : decode cX6_numberAt 7 = .ok (.iload_n 2, 1) := by decide +kernel
theorem dX6_numberAt_8 : decode cX6_numberAt 8 = .ok (.if_icmp .ge 26, 3) := by decide +kernel
theorem dX6_numberAt_11 : decode cX6_numberAt 11 = .ok (.iload_n 3, 1) := by decide +kernel
theorem dX6_numberAt_12 : decode cX6_numberAt 12 = .ok (.bipush 10, 2) := by decide +kernel
theorem dX6_numberAt_14 : decode cX6_numberAt 14 = .ok (.imul, 1) := by decide +kernel
theorem dX6_numberAt_15 : decode cX6_numberAt 15 = .ok (.aload_n 0, 1) := by decide +kernel
theorem dX6_numberAt_16 : decode cX6_numberAt 16 = .ok (.iload_n 1, 1) := by decide +kernel
theorem dX6_numberAt_17 : decode cX6_numberAt 17 = .ok (.iload 4, 2) := by decide +kernel
theorem dX6_numberAt_19 : decode cX6_numberAt 19 = .ok (.iadd, 1) := by decide +kernel
theorem dX6_numberAt_20 : decode cX6_numberAt 20 = .ok (.invokevirtual 19, 3) := by decide +kernel
theorem dX6_numberAt_23 : decode cX6_numberAt 23 = .ok (.bipush 48, 2) := by decide +kernel
theorem dX6_numberAt_25 : decode cX6_numberAt 25 = .ok (.isub, 1) := by decide +kernel
theorem dX6_numberAt_26 : decode cX6_numberAt 26 = .ok (.iadd, 1) := by decide +kernel
theorem dX6_numberAt_27 : decode cX6_numberAt 27 = .ok (.istore_n 3, 1) := by decide +kernel
theorem dX6_numberAt_28 : decode cX6_numberAt 28 = .ok (.iinc 4 1, 3) := by decide +kernel
theorem dX6_numberAt_31 : decode cX6_numberAt 31 = .ok (.goto (-26), 3) := by decide +kernel
theorem dX6_numberAt_34 : decode cX6_numberAt 34 = .ok (.iload_n 3, 1) := by decide +kernel
theorem dX6_numberAt_35 : decode cX6_numberAt 35 = .ok (.ireturn, 1) := by decide +kernel
set_option maxRecDepth 20000 in
theorem dX7_init_0 : decode cX7_init 0 = .ok (.aload_n 0, 1) := by decide +kernel
theorem dX7_init_1 : decode cX7_init 1 = .ok (.invokespecial 3, 3) := by decide +kernel
theorem dX7_init_4 : decode cX7_init 4 = .ok (.aload_n 0, 1) := by decide +kernel
theorem dX7_init_5 : decode cX7_init 5 = .ok (.new 9, 3) := by decide +kernel
theorem dX7_init_8 : decode cX7_init 8 = .ok (.dup, 1) := by decide +kernel
theorem dX7_init_9 : decode cX7_init 9 = .ok (.invokespecial 11, 3) := by decide +kernel
theorem dX7_init_12 : decode cX7_init 12 = .ok (.putfield 12, 3) := by decide +kernel
theorem dX7_init_15 : decode cX7_init 15 = .ok (.aload_n 0, 1) := by decide +kernel
theorem dX7_init_16 : decode cX7_init 16 = .ok (.new 18, 3) := by decide +kernel
theorem dX7_init_19 : decode cX7_init 19 = .ok (.dup, 1) := by decide +kernel
theorem dX7_init_20 : decode cX7_init 20 = .ok (.invokespecial 20, 3) := by decide +kernel
theorem dX7_init_23 : decode cX7_init 23 = .ok (.putfield 21, 3) := by decide +kernel
theorem dX7_init_26 : decode cX7_init 26 = .ok (.return_, 1) := by decide +kernel
set_option maxRecDepth 20000 in
theorem dX7_run_0 : decode cX7_run 0 = .ok (.aload_n 0, 1) := by decide +kernel
theorem dX7_run_1 : decode cX7_run 1 = .ok (.getfield 12, 3) := by decide +kernel
theorem dX7_run_4 : decode cX7_run 4 = .ok (.aload_n 2, 1) := by decide +kernel
theorem dX7_run_5 : decode cX7_run 5 = .ok (.invokevirtual 25, 3) := by decide +kernel
theorem dX7_run_8 : decode cX7_run 8 = .ok (.aload_n 0, 1) := by decide +kernel
theorem dX7_run_9 : decode cX7_run 9 = .ok (.iconst 0, 1) := by decide +kernel
theorem dX7_run_10 : decode cX7_run 10 = .ok (.putfield 29, 3) := by decide +kernel
theorem dX7_run_13 : decode cX7_run 13 = .ok (.aload_n 0, 1) := by decide +kernel
theorem dX7_run_14 : decode cX7_run 14 = .ok (.iconst 0, 1) := by decide +kernel
theorem dX7_run_15 : decode cX7_run 15 = .ok (.putfield 33, 3) := by decide +kernel
theorem dX7_run_18 : decode cX7_run 18 = .ok (.aload_n 0, 1) := by decide +kernel
theorem dX7_run_19 : decode cX7_run 19 = .ok (.iconst 0, 1) := by decide +kernel
theorem dX7_run_20 : decode cX7_run 20 = .ok (.putfield 36, 3) := by decide +kernel
theorem dX7_run_23 : decode cX7_run 23 = .ok (.aload_n 0, 1) := by decide +kernel
theorem dX7_run_24 : decode cX7_run 24 = .ok (.iconst 0, 1) := by decide +kernel
theorem dX7_run_25 : decode cX7_run 25 = .ok (.putfield 39, 3) := by decide +kernel
theorem dX7_run_28 : decode cX7_run 28 = .ok (.iconst 0, 1) := by decide +kernel
theorem dX7_run_29 : decode cX7_run 29 = .ok (.istore_n 3, 1) := by decide +kernel
theorem dX7_run_30 : decode cX7_run 30 = .ok (.iload_n 3, 1) := by decide +kernel
theorem dX7_run_31 : decode cX7_run 31 = .ok (.bipush 80, 2) := by decide +kernel
theorem dX7_run_33 : decode cX7_run 33 = .ok (.if_icmp .ge 76, 3) := by decide +kernel
theorem dX7_run_36 : decode cX7_run 36 = .ok (.aload_n 0, 1) := by decide +kernel
theorem dX7_run_37 : decode cX7_run 37 = .ok (.getfield 33, 3) := by decide +kernel
theorem dX7_run_40 : decode cX7_run 40 = .ok (.aload_n 1, 1) := by decide +kernel
theorem dX7_run_41 : decode cX7_run 41 = .ok (.getfield 42, 3) := by decide +kernel
theorem dX7_run_44 : decode cX7_run 44 = .ok (.if_icmp .ge 65, 3) := by decide +kernel
theorem dX7_run_47 : decode cX7_run 47 = .ok (.aload_n 0, 1) := by decide +kernel
theorem dX7_run_48 : decode cX7_run 48 = .ok (.getfield 36, 3) := by decide +kernel
theorem dX7_run_51 : decode cX7_run 51 = .ok (.ifCond .ne 58, 3) := by decide +kernel
theorem dX7_run_54 : decode cX7_run 54 = .ok (.aload_n 0, 1) := by decide +kernel
theorem dX7_run_55 : decode cX7_run 55 = .ok (.aload_n 0, 1) := by decide +kernel
theorem dX7_run_56 : decode cX7_run 56 = .ok (.aload_n 1, 1) := by decide +kernel
theorem dX7_run_57 : decode cX7_run 57 = .ok (.invokevirtual 47, 3) := by decide +kernel
theorem dX7_run_60 : decode cX7_run 60 = .ok (.putfield 36, 3) := by decide +kernel
theorem dX7_run_63 : decode cX7_run 63 = .ok (.aload_n 0, 1) := by decide +kernel
theorem dX7_run_64 : decode cX7_run 64 = .ok (.getfield 36, 3) := by decide +kernel
theorem dX7_run_67 : decode cX7_run 67 = .ok (.ifCond .ne 36, 3) := by decide +kernel
theorem dX7_run_70 : decode cX7_run 70 = .ok (.aload_n 0, 1) := by decide +kernel
theorem dX7_run_71 : decode cX7_run 71 = .ok (.getfield 12, 3) := by decide +kernel
theorem dX7_run_74 : decode cX7_run 74 = .ok (.aload_n 0, 1) := by decide +kernel
theorem dX7_run_75 : decode cX7_run 75 = .ok (.getfield 21, 3) := by decide +kernel
theorem dX7_run_78 : decode cX7_run 78 = .ok (.invokevirtual 51, 3) := by decide +kernel
theorem dX7_run_81 : decode cX7_run 81 = .ok (.pop, 1) := by decide +kernel
theorem dX7_run_82 : decode cX7_run 82 = .ok (.aload_n 0, 1) := by decide +kernel
theorem dX7_run_83 : decode cX7_run 83 = .ok (.dup, 1) := by decide +kernel
theorem dX7_run_84 : decode cX7_run 84 = .ok (.getfield 29, 3) := by decide +kernel
theorem dX7_run_87 : decode cX7_run 87 = .ok (.iconst 1, 1) := by decide +kernel
theorem dX7_run_88 : decode cX7_run 88 = .ok (.iadd, 1) := by decide +kernel
theorem dX7_run_89 : decode cX7_run 89 = .ok (.putfield 29, 3) := by decide +kernel
theorem dX7_run_92 : decode cX7_run 92 = .ok (.aload_n 0, 1) := by decide +kernel
theorem dX7_run_93 : decode cX7_run 93 = .ok (.aload_n 0, 1) := by decide +kernel
theorem dX7_run_94 : decode cX7_run 94 = .ok (.getfield 21, 3) := by decide +kernel
theorem dX7_run_97 : decode cX7_run 97 = .ok (.getfield 55, 3) := by decide +kernel
theorem dX7_run_100 : decode cX7_run 100 = .ok (.putfield 33, 3) := by decide +kernel
theorem dX7_run_103 : decode cX7_run 103 = .ok (.iinc 3 1, 3) := by decide +kernel
theorem dX7_run_106 : decode cX7_run 106 = .ok (.goto (-76), 3) := by decide +kernel
theorem dX7_run_109 : decode cX7_run 109 = .ok (.return_, 1) := by decide +kernel
set_option maxRecDepth 20000 in
theorem dX7_faultOfNext_0 : decode cX7_faultOfNext 0 = .ok (.aload_n 0, 1) := by decide +kernel
theorem dX7_faultOfNext_1 : decode cX7_faultOfNext 1 = .ok (.getfield 21, 3) := by decide +kernel
theorem dX7_faultOfNext_4 : decode cX7_faultOfNext 4 = .ok (.aload_n 1, 1) := by decide +kernel
theorem dX7_faultOfNext_5 : decode cX7_faultOfNext 5 = .ok (.aload_n 0, 1) := by decide +kernel
theorem dX7_faultOfNext_6 : decode cX7_faultOfNext 6 = .ok (.getfield 33, 3) := by decide +kernel
theorem dX7_faultOfNext_9 : decode cX7_faultOfNext 9 = .ok (.invokevirtual 58, 3) := by decide +kernel
theorem dX7_faultOfNext_12 : decode cX7_faultOfNext 12 = .ok (.ifCond .ne 5, 3) := by decide +kernel
theorem dX7_faultOfNext_15 : decode cX7_faultOfNext 15 = .ok (.iconst 1, 1) := by decide +kernel
theorem dX7_faultOfNext_16 : decode cX7_faultOfNext 16 = .ok (.ireturn, 1) := by decide +kernel
theorem dX7_faultOfNext_17 : decode cX7_faultOfNext 17 = .ok (.aload_n 0, 1) := by decide +kernel
theorem dX7_faultOfNext_18 : decode cX7_faultOfNext 18 = .ok (.aload_n 0, 1) := by decide +kernel
theorem dX7_faultOfNext_19 : decode cX7_faultOfNext 19 = .ok (.getfield 12, 3) := by decide +kernel
theorem dX7_faultOfNext_22 : decode cX7_faultOfNext 22 = .ok (.aload_n 0, 1) := by decide +kernel
theorem dX7_faultOfNext_23 : decode cX7_faultOfNext 23 = .ok (.getfield 21, 3) := by decide +kernel
theorem dX7_faultOfNext_26 : decode cX7_faultOfNext 26 = .ok (.invokevirtual 62, 3) := by decide +kernel
theorem dX7_faultOfNext_29 : decode cX7_faultOfNext 29 = .ok (.putfield 39, 3) := by decide +kernel
theorem dX7_faultOfNext_32 : decode cX7_faultOfNext 32 = .ok (.aload_n 0, 1) := by decide +kernel
theorem dX7_faultOfNext_33 : decode cX7_faultOfNext 33 = .ok (.getfield 39, 3) := by decide +kernel
theorem dX7_faultOfNext_36 : decode cX7_faultOfNext 36 = .ok (.ifCond .ge 7, 3) := by decide +kernel
theorem dX7_faultOfNext_39 : decode cX7_faultOfNext 39 = .ok (.iconst 2, 1) := by decide +kernel
theorem dX7_faultOfNext_40 : decode cX7_faultOfNext 40 = .ok (.goto 4, 3) := by decide +kernel
theorem dX7_faultOfNext_43 : decode cX7_faultOfNext 43 = .ok (.iconst 0, 1) := by decide +kernel
theorem dX7_faultOfNext_44 : decode cX7_faultOfNext 44 = .ok (.ireturn, 1) := by decide +kernel
set_option maxRecDepth 20000 in
theorem dX8_init_0 : decode cX8_init 0 = .ok (.aload_n 0, 1) := by decide +kernel
theorem dX8_init_1 : decode cX8_init 1 = .ok (.invokespecial 1, 3) := by decide +kernel
theorem dX8_init_4 : decode cX8_init 4 = .ok (.aload_n 0, 1) := by decide +kernel
theorem dX8_init_5 : decode cX8_init 5 = .ok (.new 7, 3) := by decide +kernel
theorem dX8_init_8 : decode cX8_init 8 = .ok (.dup, 1) := by decide +kernel
theorem dX8_init_9 : decode cX8_init 9 = .ok (.invokespecial 9, 3) := by decide +kernel
theorem dX8_init_12 : decode cX8_init 12 = .ok (.putfield 10, 3) := by decide +kernel
theorem dX8_init_15 : decode cX8_init 15 = .ok (.aload_n 0, 1) := by decide +kernel
theorem dX8_init_16 : decode cX8_init 16 = .ok (.new 16, 3) := by decide +kernel
theorem dX8_init_19 : decode cX8_init 19 = .ok (.dup, 1) := by decide +kernel
theorem dX8_init_20 : decode cX8_init 20 = .ok (.invokespecial 18, 3) := by decide +kernel
theorem dX8_init_23 : decode cX8_init 23 = .ok (.putfield 19, 3) := by decide +kernel
theorem dX8_init_26 : decode cX8_init 26 = .ok (.aload_n 0, 1) := by decide +kernel
theorem dX8_init_27 : decode cX8_init 27 = .ok (.new 23, 3) := by decide +kernel
theorem dX8_init_30 : decode cX8_init 30 = .ok (.dup, 1) := by decide +kernel
theorem dX8_init_31 : decode cX8_init 31 = .ok (.invokespecial 25, 3) := by decide +kernel
theorem dX8_init_34 : decode cX8_init 34 = .ok (.putfield 26, 3) := by decide +kernel
theorem dX8_init_37 : decode cX8_init 37 = .ok (.aload_n 0, 1) := by decide +kernel
theorem dX8_init_38 : decode cX8_init 38 = .ok (.new 30, 3) := by decide +kernel
theorem dX8_init_41 : decode cX8_init 41 = .ok (.dup, 1) := by decide +kernel
theorem dX8_init_42 : decode cX8_init 42 = .ok (.invokespecial 32, 3) := by decide +kernel
theorem dX8_init_45 : decode cX8_init 45 = .ok (.putfield 33, 3) := by decide +kernel
theorem dX8_init_48 : decode cX8_init 48 = .ok (.aload_n 0, 1) := by decide +kernel
theorem dX8_init_49 : decode cX8_init 49 = .ok (.new 37, 3) := by decide +kernel
theorem dX8_init_52 : decode cX8_init 52 = .ok (.dup, 1) := by decide +kernel
theorem dX8_init_53 : decode cX8_init 53 = .ok (.invokespecial 39, 3) := by decide +kernel
theorem dX8_init_56 : decode cX8_init 56 = .ok (.putfield 40, 3) := by decide +kernel
theorem dX8_init_59 : decode cX8_init 59 = .ok (.aload_n 0, 1) := by decide +kernel
theorem dX8_init_60 : decode cX8_init 60 = .ok (.new 44, 3) := by decide +kernel
theorem dX8_init_63 : decode cX8_init 63 = .ok (.dup, 1) := by decide +kernel
theorem dX8_init_64 : decode cX8_init 64 = .ok (.invokespecial 46, 3) := by decide +kernel
theorem dX8_init_67 : decode cX8_init 67 = .ok (.putfield 47, 3) := by decide +kernel
theorem dX8_init_70 : decode cX8_init 70 = .ok (.return_, 1) := by decide +kernel
set_option maxRecDepth 20000 in
theorem dX8_table_0 : decode cX8_table 0 = .ok (.aload_n 0, 1) := by decide +kernel
theorem dX8_table_1 : decode cX8_table 1 = .ok (.getfield 33, 3) := by decide +kernel
theorem dX8_table_4 : decode cX8_table 4 = .ok (.bipush 107, 2) := by decide +kernel
theorem dX8_table_6 : decode cX8_table 6 = .ok (.iload_n 1, 1) := by decide +kernel
theorem dX8_table_7 : decode cX8_table 7 = .ok (.iload_n 2, 1) := by decide +kernel
theorem dX8_table_8 : decode cX8_table 8 = .ok (.invokevirtual 51, 3) := by decide +kernel
theorem dX8_table_11 : decode cX8_table 11 = .ok (.aload_n 0, 1) := by decide +kernel
theorem dX8_table_12 : decode cX8_table 12 = .ok (.invokevirtual 55, 3) := by decide +kernel
theorem dX8_table_15 : decode cX8_table 15 = .ok (.ireturn, 1) := by decide +kernel
set_option maxRecDepth 20000 in
theorem dX8_add_0 : decode cX8_add 0 = .ok (.aload_n 0, 1) := by decide +kernel
theorem dX8_add_1 : decode cX8_add 1 = .ok (.getfield 33, 3) := by decide +kernel
theorem dX8_add_4 : decode cX8_add 4 = .ok (.bipush 97, 2) := by decide +kernel
theorem dX8_add_6 : decode cX8_add 6 = .ok (.iload_n 1, 1) := by decide +kernel
theorem dX8_add_7 : decode cX8_add 7 = .ok (.iload_n 2, 1) := by decide +kernel
theorem dX8_add_8 : decode cX8_add 8 = .ok (.invokevirtual 51, 3) := by decide +kernel
theorem dX8_add_11 : decode cX8_add 11 = .ok (.aload_n 0, 1) := by decide +kernel
theorem dX8_add_12 : decode cX8_add 12 = .ok (.invokevirtual 55, 3) := by decide +kernel
theorem dX8_add_15 : decode cX8_add 15 = .ok (.ireturn, 1) := by decide +kernel
set_option maxRecDepth 20000 in
theorem dX8_addRow_0 : decode cX8_addRow 0 = .ok (.aload_n 0, 1) := by decide +kernel
theorem dX8_addRow_1 : decode cX8_addRow 1 = .ok (.getfield 33, 3) := by decide +kernel
theorem dX8_addRow_4 : decode cX8_addRow 4 = .ok (.bipush 115, 2) := by decide +kernel
theorem dX8_addRow_6 : decode cX8_addRow 6 = .ok (.iload_n 1, 1) := by decide +kernel
theorem dX8_addRow_7 : decode cX8_addRow 7 = .ok (.iload_n 2, 1) := by decide +kernel
theorem dX8_addRow_8 : decode cX8_addRow 8 = .ok (.invokevirtual 51, 3) := by decide +kernel
theorem dX8_addRow_11 : decode cX8_addRow 11 = .ok (.aload_n 0, 1) := by decide +kernel
theorem dX8_addRow_12 : decode cX8_addRow 12 = .ok (.getfield 33, 3) := by decide +kernel
theorem dX8_addRow_15 : decode cX8_addRow 15 = .ok (.iload_n 3, 1) := by decide +kernel
theorem dX8_addRow_16 : decode cX8_addRow 16 = .ok (.iload 4, 2) := by decide +kernel
theorem dX8_addRow_18 : decode cX8_addRow 18 = .ok (.invokevirtual 59, 3) := by decide +kernel
theorem dX8_addRow_21 : decode cX8_addRow 21 = .ok (.aload_n 0, 1) := by decide +kernel
theorem dX8_addRow_22 : decode cX8_addRow 22 = .ok (.invokevirtual 55, 3) := by decide +kernel
theorem dX8_addRow_25 : decode cX8_addRow 25 = .ok (.ireturn, 1) := by decide +kernel
set_option maxRecDepth 20000 in
theorem dX8_merge_0 : decode cX8_merge 0 = .ok (.aload_n 0, 1) := by decide +kernel
theorem dX8_merge_1 : decode cX8_merge 1 = .ok (.getfield 33, 3) := by decide +kernel
theorem dX8_merge_4 : decode cX8_merge 4 = .ok (.bipush 109, 2) := by decide +kernel
theorem dX8_merge_6 : decode cX8_merge 6 = .ok (.iload_n 1, 1) := by decide +kernel
theorem dX8_merge_7 : decode cX8_merge 7 = .ok (.iload_n 2, 1) := by decide +kernel
theorem dX8_merge_8 : decode cX8_merge 8 = .ok (.invokevirtual 51, 3) := by decide +kernel
theorem dX8_merge_11 : decode cX8_merge 11 = .ok (.aload_n 0, 1) := by decide +kernel
theorem dX8_merge_12 : decode cX8_merge 12 = .ok (.invokevirtual 55, 3) := by decide +kernel
theorem dX8_merge_15 : decode cX8_merge 15 = .ok (.ireturn, 1) := by decide +kernel
set_option maxRecDepth 20000 in
theorem dX8_reset_0 : decode cX8_reset 0 = .ok (.aload_n 0, 1) := by decide +kernel
theorem dX8_reset_1 : decode cX8_reset 1 = .ok (.getfield 33, 3) := by decide +kernel
theorem dX8_reset_4 : decode cX8_reset 4 = .ok (.bipush 122, 2) := by decide +kernel
theorem dX8_reset_6 : decode cX8_reset 6 = .ok (.iload_n 1, 1) := by decide +kernel
theorem dX8_reset_7 : decode cX8_reset 7 = .ok (.iconst 0, 1) := by decide +kernel
theorem dX8_reset_8 : decode cX8_reset 8 = .ok (.invokevirtual 51, 3) := by decide +kernel
theorem dX8_reset_11 : decode cX8_reset 11 = .ok (.aload_n 0, 1) := by decide +kernel
theorem dX8_reset_12 : decode cX8_reset 12 = .ok (.invokevirtual 55, 3) := by decide +kernel
theorem dX8_reset_15 : decode cX8_reset 15 = .ok (.ireturn, 1) := by decide +kernel
set_option maxRecDepth 20000 in
theorem dX8_change_0 : decode cX8_change 0 = .ok (.aload_n 0, 1) := by decide +kernel
theorem dX8_change_1 : decode cX8_change 1 = .ok (.getfield 10, 3) := by decide +kernel
theorem dX8_change_4 : decode cX8_change 4 = .ok (.aload_n 0, 1) := by decide +kernel
theorem dX8_change_5 : decode cX8_change 5 = .ok (.getfield 33, 3) := by decide +kernel
theorem dX8_change_8 : decode cX8_change 8 = .ok (.invokevirtual 63, 3) := by decide +kernel
theorem dX8_change_11 : decode cX8_change 11 = .ok (.istore_n 1, 1) := by decide +kernel
theorem dX8_change_12 : decode cX8_change 12 = .ok (.iload_n 1, 1) := by decide +kernel
theorem dX8_change_13 : decode cX8_change 13 = .ok (.ifCond .ge 5, 3) := by decide +kernel
theorem dX8_change_16 : decode cX8_change 16 = .ok (.iload_n 1, 1) := by decide +kernel
theorem dX8_change_17 : decode cX8_change 17 = .ok (.ireturn, 1) := by decide +kernel
theorem dX8_change_18 : decode cX8_change 18 = .ok (.aload_n 0, 1) := by decide +kernel
theorem dX8_change_19 : decode cX8_change 19 = .ok (.getfield 19, 3) := by decide +kernel
theorem dX8_change_22 : decode cX8_change 22 = .ok (.aload_n 0, 1) := by decide +kernel
theorem dX8_change_23 : decode cX8_change 23 = .ok (.getfield 10, 3) := by decide +kernel
theorem dX8_change_26 : decode cX8_change 26 = .ok (.invokevirtual 67, 3) := by decide +kernel
theorem dX8_change_29 : decode cX8_change 29 = .ok (.aload_n 0, 1) := by decide +kernel
theorem dX8_change_30 : decode cX8_change 30 = .ok (.getfield 10, 3) := by decide +kernel
theorem dX8_change_33 : decode cX8_change 33 = .ok (.aload_n 0, 1) := by decide +kernel
theorem dX8_change_34 : decode cX8_change 34 = .ok (.getfield 33, 3) := by decide +kernel
theorem dX8_change_37 : decode cX8_change 37 = .ok (.invokevirtual 71, 3) := by decide +kernel
theorem dX8_change_40 : decode cX8_change 40 = .ok (.ireturn, 1) := by decide +kernel
set_option maxRecDepth 20000 in
theorem dX8_tableOf_0 : decode cX8_tableOf 0 = .ok (.aload_n 0, 1) := by decide +kernel
theorem dX8_tableOf_1 : decode cX8_tableOf 1 = .ok (.getfield 10, 3) := by decide +kernel
theorem dX8_tableOf_4 : decode cX8_tableOf 4 = .ok (.iload_n 1, 1) := by decide +kernel
theorem dX8_tableOf_5 : decode cX8_tableOf 5 = .ok (.invokevirtual 74, 3) := by decide +kernel
theorem dX8_tableOf_8 : decode cX8_tableOf 8 = .ok (.astore_n 3, 1) := by decide +kernel
theorem dX8_tableOf_9 : decode cX8_tableOf 9 = .ok (.aload_n 3, 1) := by decide +kernel
theorem dX8_tableOf_10 : decode cX8_tableOf 10 = .ok (.ifnull 12, 3) := by decide +kernel
theorem dX8_tableOf_13 : decode cX8_tableOf 13 = .ok (.iload_n 2, 1) := by decide +kernel
theorem dX8_tableOf_14 : decode cX8_tableOf 14 = .ok (.bipush 9, 2) := by decide +kernel
theorem dX8_tableOf_16 : decode cX8_tableOf 16 = .ok (.invokestatic 78, 3) := by decide +kernel
theorem dX8_tableOf_19 : decode cX8_tableOf 19 = .ok (.ifCond .ne 5, 3) := by decide +kernel
theorem dX8_tableOf_22 : decode cX8_tableOf 22 = .ok (.iconst (-1), 1) := by decide +kernel
theorem dX8_tableOf_23 : decode cX8_tableOf 23 = .ok (.ireturn, 1) := by decide +kernel
theorem dX8_tableOf_24 : decode cX8_tableOf 24 = .ok (.aload_n 3, 1) := by decide +kernel
theorem dX8_tableOf_25 : decode cX8_tableOf 25 = .ok (.iload_n 2, 1) := by decide +kernel
theorem dX8_tableOf_26 : decode cX8_tableOf 26 = .ok (.invokevirtual 82, 3) := by decide +kernel
theorem dX8_tableOf_29 : decode cX8_tableOf 29 = .ok (.ireturn, 1) := by decide +kernel
set_option maxRecDepth 20000 in
theorem dX8_keptAt_0 : decode cX8_keptAt 0 = .ok (.aload_n 0, 1) := by decide +kernel
theorem dX8_keptAt_1 : decode cX8_keptAt 1 = .ok (.getfield 10, 3) := by decide +kernel
theorem dX8_keptAt_4 : decode cX8_keptAt 4 = .ok (.iload_n 1, 1) := by decide +kernel
theorem dX8_keptAt_5 : decode cX8_keptAt 5 = .ok (.invokevirtual 74, 3) := by decide +kernel
theorem dX8_keptAt_8 : decode cX8_keptAt 8 = .ok (.astore_n 3, 1) := by decide +kernel
theorem dX8_keptAt_9 : decode cX8_keptAt 9 = .ok (.aload_n 3, 1) := by decide +kernel
theorem dX8_keptAt_10 : decode cX8_keptAt 10 = .ok (.ifnonnull 7, 3) := by decide +kernel
theorem dX8_keptAt_13 : decode cX8_keptAt 13 = .ok (.iconst (-1), 1) := by decide +kernel
theorem dX8_keptAt_14 : decode cX8_keptAt 14 = .ok (.goto 11, 3) := by decide +kernel
theorem dX8_keptAt_17 : decode cX8_keptAt 17 = .ok (.aload_n 3, 1) := by decide +kernel
theorem dX8_keptAt_18 : decode cX8_keptAt 18 = .ok (.getfield 88, 3) := by decide +kernel
theorem dX8_keptAt_21 : decode cX8_keptAt 21 = .ok (.iload_n 2, 1) := by decide +kernel
theorem dX8_keptAt_22 : decode cX8_keptAt 22 = .ok (.invokevirtual 91, 3) := by decide +kernel
theorem dX8_keptAt_25 : decode cX8_keptAt 25 = .ok (.ireturn, 1) := by decide +kernel
set_option maxRecDepth 20000 in
theorem dX8_sawAt_0 : decode cX8_sawAt 0 = .ok (.aload_n 0, 1) := by decide +kernel
theorem dX8_sawAt_1 : decode cX8_sawAt 1 = .ok (.getfield 10, 3) := by decide +kernel
theorem dX8_sawAt_4 : decode cX8_sawAt 4 = .ok (.iload_n 1, 1) := by decide +kernel
theorem dX8_sawAt_5 : decode cX8_sawAt 5 = .ok (.invokevirtual 74, 3) := by decide +kernel
theorem dX8_sawAt_8 : decode cX8_sawAt 8 = .ok (.astore 4, 2) := by decide +kernel
theorem dX8_sawAt_10 : decode cX8_sawAt 10 = .ok (.aload 4, 2) := by decide +kernel
theorem dX8_sawAt_12 : decode cX8_sawAt 12 = .ok (.ifnull 15, 3) := by decide +kernel
theorem dX8_sawAt_15 : decode cX8_sawAt 15 = .ok (.iload_n 2, 1) := by decide +kernel
theorem dX8_sawAt_16 : decode cX8_sawAt 16 = .ok (.ifCond .lt 11, 3) := by decide +kernel
theorem dX8_sawAt_19 : decode cX8_sawAt 19 = .ok (.iload_n 3, 1) := by decide +kernel
theorem dX8_sawAt_20 : decode cX8_sawAt 20 = .ok (.iconst 1, 1) := by decide +kernel
theorem dX8_sawAt_21 : decode cX8_sawAt 21 = .ok (.invokestatic 78, 3) := by decide +kernel
theorem dX8_sawAt_24 : decode cX8_sawAt 24 = .ok (.ifCond .ne 5, 3) := by decide +kernel
theorem dX8_sawAt_27 : decode cX8_sawAt 27 = .ok (.iconst (-1), 1) := by decide +kernel
theorem dX8_sawAt_28 : decode cX8_sawAt 28 = .ok (.ireturn, 1) := by decide +kernel
theorem dX8_sawAt_29 : decode cX8_sawAt 29 = .ok (.aload 4, 2) := by decide +kernel
theorem dX8_sawAt_31 : decode cX8_sawAt 31 = .ok (.iload_n 2, 1) := by decide +kernel
theorem dX8_sawAt_32 : decode cX8_sawAt 32 = .ok (.invokevirtual 94, 3) := by decide +kernel
theorem dX8_sawAt_35 : decode cX8_sawAt 35 = .ok (.istore 5, 2) := by decide +kernel
theorem dX8_sawAt_37 : decode cX8_sawAt 37 = .ok (.iload 5, 2) := by decide +kernel
theorem dX8_sawAt_39 : decode cX8_sawAt 39 = .ok (.iconst (-1), 1) := by decide +kernel
theorem dX8_sawAt_40 : decode cX8_sawAt 40 = .ok (.if_icmp .ne 6, 3) := by decide +kernel
theorem dX8_sawAt_43 : decode cX8_sawAt 43 = .ok (.bipush (-4), 2) := by decide +kernel
theorem dX8_sawAt_45 : decode cX8_sawAt 45 = .ok (.ireturn, 1) := by decide +kernel
theorem dX8_sawAt_46 : decode cX8_sawAt 46 = .ok (.iload_n 3, 1) := by decide +kernel
theorem dX8_sawAt_47 : decode cX8_sawAt 47 = .ok (.ifCond .ne 8, 3) := by decide +kernel
theorem dX8_sawAt_50 : decode cX8_sawAt 50 = .ok (.iload 5, 2) := by decide +kernel
theorem dX8_sawAt_52 : decode cX8_sawAt 52 = .ok (.goto 10, 3) := by decide +kernel
theorem dX8_sawAt_55 : decode cX8_sawAt 55 = .ok (.aload 4, 2) := by decide +kernel
theorem dX8_sawAt_57 : decode cX8_sawAt 57 = .ok (.iload 5, 2) := by decide +kernel
theorem dX8_sawAt_59 : decode cX8_sawAt 59 = .ok (.invokevirtual 97, 3) := by decide +kernel
theorem dX8_sawAt_62 : decode cX8_sawAt 62 = .ok (.ireturn, 1) := by decide +kernel
set_option maxRecDepth 20000 in
theorem dX8_hash_0 : decode cX8_hash 0 = .ok (.iload_n 1, 1) := by decide +kernel
theorem dX8_hash_1 : decode cX8_hash 1 = .ok (.invokestatic 100, 3) := by decide +kernel
theorem dX8_hash_4 : decode cX8_hash 4 = .ok (.ifCond .eq 12, 3) := by decide +kernel
theorem dX8_hash_7 : decode cX8_hash 7 = .ok (.iload_n 2, 1) := by decide +kernel
theorem dX8_hash_8 : decode cX8_hash 8 = .ok (.bipush 9, 2) := by decide +kernel
theorem dX8_hash_10 : decode cX8_hash 10 = .ok (.invokestatic 78, 3) := by decide +kernel
theorem dX8_hash_13 : decode cX8_hash 13 = .ok (.ifCond .ne 5, 3) := by decide +kernel
theorem dX8_hash_16 : decode cX8_hash 16 = .ok (.iconst (-1), 1) := by decide +kernel
theorem dX8_hash_17 : decode cX8_hash 17 = .ok (.ireturn, 1) := by decide +kernel
theorem dX8_hash_18 : decode cX8_hash 18 = .ok (.iload_n 1, 1) := by decide +kernel
theorem dX8_hash_19 : decode cX8_hash 19 = .ok (.iload_n 2, 1) := by decide +kernel
theorem dX8_hash_20 : decode cX8_hash 20 = .ok (.invokestatic 104, 3) := by decide +kernel
theorem dX8_hash_23 : decode cX8_hash 23 = .ok (.ireturn, 1) := by decide +kernel
set_option maxRecDepth 20000 in
theorem dX8_has_0 : decode cX8_has 0 = .ok (.aload_n 0, 1) := by decide +kernel
theorem dX8_has_1 : decode cX8_has 1 = .ok (.getfield 10, 3) := by decide +kernel
theorem dX8_has_4 : decode cX8_has 4 = .ok (.iload_n 1, 1) := by decide +kernel
theorem dX8_has_5 : decode cX8_has 5 = .ok (.invokevirtual 74, 3) := by decide +kernel
theorem dX8_has_8 : decode cX8_has 8 = .ok (.astore 4, 2) := by decide +kernel
theorem dX8_has_10 : decode cX8_has 10 = .ok (.aload 4, 2) := by decide +kernel
theorem dX8_has_12 : decode cX8_has 12 = .ok (.ifnull 18, 3) := by decide +kernel
theorem dX8_has_15 : decode cX8_has 15 = .ok (.iload_n 2, 1) := by decide +kernel
theorem dX8_has_16 : decode cX8_has 16 = .ok (.invokestatic 100, 3) := by decide +kernel
theorem dX8_has_19 : decode cX8_has 19 = .ok (.ifCond .eq 11, 3) := by decide +kernel
theorem dX8_has_22 : decode cX8_has 22 = .ok (.iload_n 3, 1) := by decide +kernel
theorem dX8_has_23 : decode cX8_has 23 = .ok (.iconst 1, 1) := by decide +kernel
theorem dX8_has_24 : decode cX8_has 24 = .ok (.invokestatic 78, 3) := by decide +kernel
theorem dX8_has_27 : decode cX8_has 27 = .ok (.ifCond .ne 5, 3) := by decide +kernel
theorem dX8_has_30 : decode cX8_has 30 = .ok (.iconst (-1), 1) := by decide +kernel
theorem dX8_has_31 : decode cX8_has 31 = .ok (.ireturn, 1) := by decide +kernel
theorem dX8_has_32 : decode cX8_has 32 = .ok (.iload_n 3, 1) := by decide +kernel
theorem dX8_has_33 : decode cX8_has 33 = .ok (.ifCond .ne 12, 3) := by decide +kernel
theorem dX8_has_36 : decode cX8_has 36 = .ok (.aload 4, 2) := by decide +kernel
theorem dX8_has_38 : decode cX8_has 38 = .ok (.iload_n 2, 1) := by decide +kernel
theorem dX8_has_39 : decode cX8_has 39 = .ok (.invokevirtual 108, 3) := by decide +kernel
theorem dX8_has_42 : decode cX8_has 42 = .ok (.goto 12, 3) := by decide +kernel
theorem dX8_has_45 : decode cX8_has 45 = .ok (.aload 4, 2) := by decide +kernel
theorem dX8_has_47 : decode cX8_has 47 = .ok (.getfield 88, 3) := by decide +kernel
theorem dX8_has_50 : decode cX8_has 50 = .ok (.iload_n 2, 1) := by decide +kernel
theorem dX8_has_51 : decode cX8_has 51 = .ok (.invokevirtual 111, 3) := by decide +kernel
theorem dX8_has_54 : decode cX8_has 54 = .ok (.istore 5, 2) := by decide +kernel
theorem dX8_has_56 : decode cX8_has 56 = .ok (.iload 5, 2) := by decide +kernel
theorem dX8_has_58 : decode cX8_has 58 = .ok (.ifCond .eq 7, 3) := by decide +kernel
theorem dX8_has_61 : decode cX8_has 61 = .ok (.iconst 1, 1) := by decide +kernel
theorem dX8_has_62 : decode cX8_has 62 = .ok (.goto 4, 3) := by decide +kernel
theorem dX8_has_65 : decode cX8_has 65 = .ok (.iconst 0, 1) := by decide +kernel
theorem dX8_has_66 : decode cX8_has 66 = .ok (.ireturn, 1) := by decide +kernel
set_option maxRecDepth 20000 in
theorem dX8_logAt_0 : decode cX8_logAt 0 = .ok (.iload_n 1, 1) := by decide +kernel
theorem dX8_logAt_1 : decode cX8_logAt 1 = .ok (.ifCond .lt 11, 3) := by decide +kernel
theorem dX8_logAt_4 : decode cX8_logAt 4 = .ok (.iload_n 2, 1) := by decide +kernel
theorem dX8_logAt_5 : decode cX8_logAt 5 = .ok (.iconst 2, 1) := by decide +kernel
theorem dX8_logAt_6 : decode cX8_logAt 6 = .ok (.invokestatic 78, 3) := by decide +kernel
theorem dX8_logAt_9 : decode cX8_logAt 9 = .ok (.ifCond .ne 5, 3) := by decide +kernel
theorem dX8_logAt_12 : decode cX8_logAt 12 = .ok (.iconst (-1), 1) := by decide +kernel
theorem dX8_logAt_13 : decode cX8_logAt 13 = .ok (.ireturn, 1) := by decide +kernel
theorem dX8_logAt_14 : decode cX8_logAt 14 = .ok (.aload_n 0, 1) := by decide +kernel
theorem dX8_logAt_15 : decode cX8_logAt 15 = .ok (.getfield 10, 3) := by decide +kernel
theorem dX8_logAt_18 : decode cX8_logAt 18 = .ok (.getfield 114, 3) := by decide +kernel
theorem dX8_logAt_21 : decode cX8_logAt 21 = .ok (.iload_n 1, 1) := by decide +kernel
theorem dX8_logAt_22 : decode cX8_logAt 22 = .ok (.iload_n 2, 1) := by decide +kernel
theorem dX8_logAt_23 : decode cX8_logAt 23 = .ok (.invokevirtual 118, 3) := by decide +kernel
theorem dX8_logAt_26 : decode cX8_logAt 26 = .ok (.ireturn, 1) := by decide +kernel
set_option maxRecDepth 20000 in
theorem dX8_count_0 : decode cX8_count 0 = .ok (.iload_n 1, 1) := by decide +kernel
theorem dX8_count_1 : decode cX8_count 1 = .ok (.tableswitch 114 0 7 #[47, 55, 63, 71, 79, 90, 98, 106], 47) := by decide +kernel
theorem dX8_count_48 : decode cX8_count 48 = .ok (.aload_n 0, 1) := by decide +kernel
theorem dX8_count_49 : decode cX8_count 49 = .ok (.getfield 10, 3) := by decide +kernel
theorem dX8_count_52 : decode cX8_count 52 = .ok (.getfield 123, 3) := by decide +kernel
theorem dX8_count_55 : decode cX8_count 55 = .ok (.ireturn, 1) := by decide +kernel
theorem dX8_count_56 : decode cX8_count 56 = .ok (.aload_n 0, 1) := by decide +kernel
theorem dX8_count_57 : decode cX8_count 57 = .ok (.getfield 10, 3) := by decide +kernel
theorem dX8_count_60 : decode cX8_count 60 = .ok (.getfield 127, 3) := by decide +kernel
theorem dX8_count_63 : decode cX8_count 63 = .ok (.ireturn, 1) := by decide +kernel
theorem dX8_count_64 : decode cX8_count 64 = .ok (.aload_n 0, 1) := by decide +kernel
theorem dX8_count_65 : decode cX8_count 65 = .ok (.getfield 10, 3) := by decide +kernel
theorem dX8_count_68 : decode cX8_count 68 = .ok (.invokevirtual 130, 3) := by decide +kernel
theorem dX8_count_71 : decode cX8_count 71 = .ok (.ireturn, 1) := by decide +kernel
theorem dX8_count_72 : decode cX8_count 72 = .ok (.aload_n 0, 1) := by decide +kernel
theorem dX8_count_73 : decode cX8_count 73 = .ok (.getfield 10, 3) := by decide +kernel
theorem dX8_count_76 : decode cX8_count 76 = .ok (.invokevirtual 133, 3) := by decide +kernel
theorem dX8_count_79 : decode cX8_count 79 = .ok (.ireturn, 1) := by decide +kernel
theorem dX8_count_80 : decode cX8_count 80 = .ok (.aload_n 0, 1) := by decide +kernel
theorem dX8_count_81 : decode cX8_count 81 = .ok (.getfield 10, 3) := by decide +kernel
theorem dX8_count_84 : decode cX8_count 84 = .ok (.getfield 114, 3) := by decide +kernel
theorem dX8_count_87 : decode cX8_count 87 = .ok (.getfield 136, 3) := by decide +kernel
theorem dX8_count_90 : decode cX8_count 90 = .ok (.ireturn, 1) := by decide +kernel
theorem dX8_count_91 : decode cX8_count 91 = .ok (.aload_n 0, 1) := by decide +kernel
theorem dX8_count_92 : decode cX8_count 92 = .ok (.getfield 10, 3) := by decide +kernel
theorem dX8_count_95 : decode cX8_count 95 = .ok (.invokevirtual 139, 3) := by decide +kernel
theorem dX8_count_98 : decode cX8_count 98 = .ok (.ireturn, 1) := by decide +kernel
theorem dX8_count_99 : decode cX8_count 99 = .ok (.aload_n 0, 1) := by decide +kernel
theorem dX8_count_100 : decode cX8_count 100 = .ok (.getfield 19, 3) := by decide +kernel
theorem dX8_count_103 : decode cX8_count 103 = .ok (.getfield 142, 3) := by decide +kernel
theorem dX8_count_106 : decode cX8_count 106 = .ok (.ireturn, 1) := by decide +kernel
theorem dX8_count_107 : decode cX8_count 107 = .ok (.aload_n 0, 1) := by decide +kernel
theorem dX8_count_108 : decode cX8_count 108 = .ok (.getfield 26, 3) := by decide +kernel
theorem dX8_count_111 : decode cX8_count 111 = .ok (.getfield 143, 3) := by decide +kernel
theorem dX8_count_114 : decode cX8_count 114 = .ok (.ireturn, 1) := by decide +kernel
theorem dX8_count_115 : decode cX8_count 115 = .ok (.iconst (-1), 1) := by decide +kernel
theorem dX8_count_116 : decode cX8_count 116 = .ok (.ireturn, 1) := by decide +kernel
set_option maxRecDepth 20000 in
theorem dX8_errorBits_0 : decode cX8_errorBits 0 = .ok (.aload_n 0, 1) := by decide +kernel
theorem dX8_errorBits_1 : decode cX8_errorBits 1 = .ok (.getfield 10, 3) := by decide +kernel
theorem dX8_errorBits_4 : decode cX8_errorBits 4 = .ok (.iload_n 1, 1) := by decide +kernel
theorem dX8_errorBits_5 : decode cX8_errorBits 5 = .ok (.invokevirtual 74, 3) := by decide +kernel
theorem dX8_errorBits_8 : decode cX8_errorBits 8 = .ok (.astore_n 2, 1) := by decide +kernel
theorem dX8_errorBits_9 : decode cX8_errorBits 9 = .ok (.aload_n 2, 1) := by decide +kernel
theorem dX8_errorBits_10 : decode cX8_errorBits 10 = .ok (.ifnonnull 5, 3) := by decide +kernel
theorem dX8_errorBits_13 : decode cX8_errorBits 13 = .ok (.iconst (-1), 1) := by decide +kernel
theorem dX8_errorBits_14 : decode cX8_errorBits 14 = .ok (.ireturn, 1) := by decide +kernel
theorem dX8_errorBits_15 : decode cX8_errorBits 15 = .ok (.aload_n 2, 1) := by decide +kernel
theorem dX8_errorBits_16 : decode cX8_errorBits 16 = .ok (.getfield 146, 3) := by decide +kernel
theorem dX8_errorBits_19 : decode cX8_errorBits 19 = .ok (.ifCond .ne 8, 3) := by decide +kernel
theorem dX8_errorBits_22 : decode cX8_errorBits 22 = .ok (.bipush (-4), 2) := by decide +kernel
theorem dX8_errorBits_24 : decode cX8_errorBits 24 = .ok (.goto 14, 3) := by decide +kernel
theorem dX8_errorBits_27 : decode cX8_errorBits 27 = .ok (.aload_n 2, 1) := by decide +kernel
theorem dX8_errorBits_28 : decode cX8_errorBits 28 = .ok (.invokevirtual 149, 3) := by decide +kernel
theorem dX8_errorBits_31 : decode cX8_errorBits 31 = .ok (.aload_n 2, 1) := by decide +kernel
theorem dX8_errorBits_32 : decode cX8_errorBits 32 = .ok (.getfield 146, 3) := by decide +kernel
theorem dX8_errorBits_35 : decode cX8_errorBits 35 = .ok (.invokestatic 152, 3) := by decide +kernel
theorem dX8_errorBits_38 : decode cX8_errorBits 38 = .ok (.ireturn, 1) := by decide +kernel
set_option maxRecDepth 20000 in
theorem dX8_byError_0 : decode cX8_byError 0 = .ok (.iload_n 1, 1) := by decide +kernel
theorem dX8_byError_1 : decode cX8_byError 1 = .ok (.ifCond .ge 5, 3) := by decide +kernel
theorem dX8_byError_4 : decode cX8_byError 4 = .ok (.iconst (-1), 1) := by decide +kernel
theorem dX8_byError_5 : decode cX8_byError 5 = .ok (.ireturn, 1) := by decide +kernel
theorem dX8_byError_6 : decode cX8_byError 6 = .ok (.iconst 0, 1) := by decide +kernel
theorem dX8_byError_7 : decode cX8_byError 7 = .ok (.istore_n 2, 1) := by decide +kernel
theorem dX8_byError_8 : decode cX8_byError 8 = .ok (.iload_n 2, 1) := by decide +kernel
theorem dX8_byError_9 : decode cX8_byError 9 = .ok (.aload_n 0, 1) := by decide +kernel
theorem dX8_byError_10 : decode cX8_byError 10 = .ok (.getfield 10, 3) := by decide +kernel
theorem dX8_byError_13 : decode cX8_byError 13 = .ok (.getfield 123, 3) := by decide +kernel
theorem dX8_byError_16 : decode cX8_byError 16 = .ok (.if_icmp .ge 23, 3) := by decide +kernel
theorem dX8_byError_19 : decode cX8_byError 19 = .ok (.aload_n 0, 1) := by decide +kernel
theorem dX8_byError_20 : decode cX8_byError 20 = .ok (.getfield 10, 3) := by decide +kernel
theorem dX8_byError_23 : decode cX8_byError 23 = .ok (.iload_n 2, 1) := by decide +kernel
theorem dX8_byError_24 : decode cX8_byError 24 = .ok (.invokevirtual 155, 3) := by decide +kernel
theorem dX8_byError_27 : decode cX8_byError 27 = .ok (.iload_n 1, 1) := by decide +kernel
theorem dX8_byError_28 : decode cX8_byError 28 = .ok (.if_icmp .ne 5, 3) := by decide +kernel
theorem dX8_byError_31 : decode cX8_byError 31 = .ok (.iload_n 2, 1) := by decide +kernel
theorem dX8_byError_32 : decode cX8_byError 32 = .ok (.ireturn, 1) := by decide +kernel
theorem dX8_byError_33 : decode cX8_byError 33 = .ok (.iinc 2 1, 3) := by decide +kernel
theorem dX8_byError_36 : decode cX8_byError 36 = .ok (.goto (-28), 3) := by decide +kernel
theorem dX8_byError_39 : decode cX8_byError 39 = .ok (.bipush (-4), 2) := by decide +kernel
theorem dX8_byError_41 : decode cX8_byError 41 = .ok (.ireturn, 1) := by decide +kernel
set_option maxRecDepth 20000 in
theorem dX8_would_0 : decode cX8_would 0 = .ok (.aload_n 0, 1) := by decide +kernel
theorem dX8_would_1 : decode cX8_would 1 = .ok (.getfield 10, 3) := by decide +kernel
theorem dX8_would_4 : decode cX8_would 4 = .ok (.iload_n 1, 1) := by decide +kernel
theorem dX8_would_5 : decode cX8_would 5 = .ok (.invokevirtual 74, 3) := by decide +kernel
theorem dX8_would_8 : decode cX8_would 8 = .ok (.astore_n 3, 1) := by decide +kernel
theorem dX8_would_9 : decode cX8_would 9 = .ok (.aload_n 3, 1) := by decide +kernel
theorem dX8_would_10 : decode cX8_would 10 = .ok (.ifnull 10, 3) := by decide +kernel
theorem dX8_would_13 : decode cX8_would 13 = .ok (.iload_n 2, 1) := by decide +kernel
theorem dX8_would_14 : decode cX8_would 14 = .ok (.invokestatic 100, 3) := by decide +kernel
theorem dX8_would_17 : decode cX8_would 17 = .ok (.ifCond .ne 5, 3) := by decide +kernel
theorem dX8_would_20 : decode cX8_would 20 = .ok (.iconst (-1), 1) := by decide +kernel
theorem dX8_would_21 : decode cX8_would 21 = .ok (.ireturn, 1) := by decide +kernel
theorem dX8_would_22 : decode cX8_would 22 = .ok (.aload_n 0, 1) := by decide +kernel
theorem dX8_would_23 : decode cX8_would 23 = .ok (.getfield 47, 3) := by decide +kernel
theorem dX8_would_26 : decode cX8_would 26 = .ok (.aload_n 3, 1) := by decide +kernel
theorem dX8_would_27 : decode cX8_would 27 = .ok (.getfield 88, 3) := by decide +kernel
theorem dX8_would_30 : decode cX8_would 30 = .ok (.invokevirtual 158, 3) := by decide +kernel
theorem dX8_would_33 : decode cX8_would 33 = .ok (.aload_n 0, 1) := by decide +kernel
theorem dX8_would_34 : decode cX8_would 34 = .ok (.getfield 47, 3) := by decide +kernel
theorem dX8_would_37 : decode cX8_would 37 = .ok (.iload_n 2, 1) := by decide +kernel
theorem dX8_would_38 : decode cX8_would 38 = .ok (.invokevirtual 162, 3) := by decide +kernel
theorem dX8_would_41 : decode cX8_would 41 = .ok (.aload_n 0, 1) := by decide +kernel
theorem dX8_would_42 : decode cX8_would 42 = .ok (.getfield 47, 3) := by decide +kernel
theorem dX8_would_45 : decode cX8_would 45 = .ok (.invokevirtual 166, 3) := by decide +kernel
theorem dX8_would_48 : decode cX8_would 48 = .ok (.ireturn, 1) := by decide +kernel
set_option maxRecDepth 20000 in
theorem dX8_raises_0 : decode cX8_raises 0 = .ok (.aload_n 0, 1) := by decide +kernel
