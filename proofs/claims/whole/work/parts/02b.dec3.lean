theorem dX9_mergesInto_193 : decode cX9_mergesInto 193 = .ok (.iload 5, 2) := by decide +kernel
theorem dX9_mergesInto_195 : decode cX9_mergesInto 195 = .ok (.if_icmp .ge 8, 3) := by decide +kernel
theorem dX9_mergesInto_198 : decode cX9_mergesInto 198 = .ok (.iload 4, 2) := by decide +kernel
theorem dX9_mergesInto_200 : decode cX9_mergesInto 200 = .ok (.goto 5, 3) := by decide +kernel
theorem dX9_mergesInto_203 : decode cX9_mergesInto 203 = .ok (.iload 5, 2) := by decide +kernel
theorem dX9_mergesInto_205 : decode cX9_mergesInto 205 = .ok (.iastore, 1) := by decide +kernel
theorem dX9_mergesInto_206 : decode cX9_mergesInto 206 = .ok (.iinc 3 1, 3) := by decide +kernel
theorem dX9_mergesInto_209 : decode cX9_mergesInto 209 = .ok (.goto (-116), 3) := by decide +kernel
theorem dX9_mergesInto_212 : decode cX9_mergesInto 212 = .ok (.aload_n 0, 1) := by decide +kernel
theorem dX9_mergesInto_213 : decode cX9_mergesInto 213 = .ok (.iload_n 1, 1) := by decide +kernel
theorem dX9_mergesInto_214 : decode cX9_mergesInto 214 = .ok (.invokevirtual 95, 3) := by decide +kernel
theorem dX9_mergesInto_217 : decode cX9_mergesInto 217 = .ok (.ireturn, 1) := by decide +kernel
set_option maxRecDepth 20000 in
theorem dX9_resetsOne_0 : decode cX9_resetsOne 0 = .ok (.aload_n 0, 1) := by decide +kernel
theorem dX9_resetsOne_1 : decode cX9_resetsOne 1 = .ok (.iload_n 1, 1) := by decide +kernel
theorem dX9_resetsOne_2 : decode cX9_resetsOne 2 = .ok (.invokevirtual 116, 3) := by decide +kernel
theorem dX9_resetsOne_5 : decode cX9_resetsOne 5 = .ok (.ifCond .ne 5, 3) := by decide +kernel
theorem dX9_resetsOne_8 : decode cX9_resetsOne 8 = .ok (.iconst (-1), 1) := by decide +kernel
theorem dX9_resetsOne_9 : decode cX9_resetsOne 9 = .ok (.ireturn, 1) := by decide +kernel
theorem dX9_resetsOne_10 : decode cX9_resetsOne 10 = .ok (.aload_n 0, 1) := by decide +kernel
theorem dX9_resetsOne_11 : decode cX9_resetsOne 11 = .ok (.getfield 7, 3) := by decide +kernel
theorem dX9_resetsOne_14 : decode cX9_resetsOne 14 = .ok (.sipush 140, 3) := by decide +kernel
theorem dX9_resetsOne_17 : decode cX9_resetsOne 17 = .ok (.iaload, 1) := by decide +kernel
theorem dX9_resetsOne_18 : decode cX9_resetsOne 18 = .ok (.bipush 8, 2) := by decide +kernel
theorem dX9_resetsOne_20 : decode cX9_resetsOne 20 = .ok (.if_icmp .ne 49, 3) := by decide +kernel
theorem dX9_resetsOne_23 : decode cX9_resetsOne 23 = .ok (.iconst 0, 1) := by decide +kernel
theorem dX9_resetsOne_24 : decode cX9_resetsOne 24 = .ok (.istore_n 2, 1) := by decide +kernel
theorem dX9_resetsOne_25 : decode cX9_resetsOne 25 = .ok (.iload_n 2, 1) := by decide +kernel
theorem dX9_resetsOne_26 : decode cX9_resetsOne 26 = .ok (.bipush 21, 2) := by decide +kernel
theorem dX9_resetsOne_28 : decode cX9_resetsOne 28 = .ok (.if_icmp .ge 29, 3) := by decide +kernel
theorem dX9_resetsOne_31 : decode cX9_resetsOne 31 = .ok (.aload_n 0, 1) := by decide +kernel
theorem dX9_resetsOne_32 : decode cX9_resetsOne 32 = .ok (.getfield 7, 3) := by decide +kernel
theorem dX9_resetsOne_35 : decode cX9_resetsOne 35 = .ok (.sipush 141, 3) := by decide +kernel
theorem dX9_resetsOne_38 : decode cX9_resetsOne 38 = .ok (.iload_n 2, 1) := by decide +kernel
theorem dX9_resetsOne_39 : decode cX9_resetsOne 39 = .ok (.iadd, 1) := by decide +kernel
theorem dX9_resetsOne_40 : decode cX9_resetsOne 40 = .ok (.aload_n 0, 1) := by decide +kernel
theorem dX9_resetsOne_41 : decode cX9_resetsOne 41 = .ok (.getfield 7, 3) := by decide +kernel
theorem dX9_resetsOne_44 : decode cX9_resetsOne 44 = .ok (.sipush 144, 3) := by decide +kernel
theorem dX9_resetsOne_47 : decode cX9_resetsOne 47 = .ok (.iload_n 2, 1) := by decide +kernel
theorem dX9_resetsOne_48 : decode cX9_resetsOne 48 = .ok (.iadd, 1) := by decide +kernel
theorem dX9_resetsOne_49 : decode cX9_resetsOne 49 = .ok (.iaload, 1) := by decide +kernel
theorem dX9_resetsOne_50 : decode cX9_resetsOne 50 = .ok (.iastore, 1) := by decide +kernel
theorem dX9_resetsOne_51 : decode cX9_resetsOne 51 = .ok (.iinc 2 1, 3) := by decide +kernel
theorem dX9_resetsOne_54 : decode cX9_resetsOne 54 = .ok (.goto (-29), 3) := by decide +kernel
theorem dX9_resetsOne_57 : decode cX9_resetsOne 57 = .ok (.aload_n 0, 1) := by decide +kernel
theorem dX9_resetsOne_58 : decode cX9_resetsOne 58 = .ok (.getfield 7, 3) := by decide +kernel
theorem dX9_resetsOne_61 : decode cX9_resetsOne 61 = .ok (.sipush 140, 3) := by decide +kernel
theorem dX9_resetsOne_64 : decode cX9_resetsOne 64 = .ok (.dup2, 1) := by decide +kernel
theorem dX9_resetsOne_65 : decode cX9_resetsOne 65 = .ok (.iaload, 1) := by decide +kernel
theorem dX9_resetsOne_66 : decode cX9_resetsOne 66 = .ok (.iconst 1, 1) := by decide +kernel
theorem dX9_resetsOne_67 : decode cX9_resetsOne 67 = .ok (.isub, 1) := by decide +kernel
theorem dX9_resetsOne_68 : decode cX9_resetsOne 68 = .ok (.iastore, 1) := by decide +kernel
theorem dX9_resetsOne_69 : decode cX9_resetsOne 69 = .ok (.sipush 141, 3) := by decide +kernel
theorem dX9_resetsOne_72 : decode cX9_resetsOne 72 = .ok (.iconst 3, 1) := by decide +kernel
theorem dX9_resetsOne_73 : decode cX9_resetsOne 73 = .ok (.aload_n 0, 1) := by decide +kernel
theorem dX9_resetsOne_74 : decode cX9_resetsOne 74 = .ok (.getfield 7, 3) := by decide +kernel
theorem dX9_resetsOne_77 : decode cX9_resetsOne 77 = .ok (.sipush 140, 3) := by decide +kernel
theorem dX9_resetsOne_80 : decode cX9_resetsOne 80 = .ok (.iaload, 1) := by decide +kernel
theorem dX9_resetsOne_81 : decode cX9_resetsOne 81 = .ok (.imul, 1) := by decide +kernel
theorem dX9_resetsOne_82 : decode cX9_resetsOne 82 = .ok (.iadd, 1) := by decide +kernel
theorem dX9_resetsOne_83 : decode cX9_resetsOne 83 = .ok (.istore_n 2, 1) := by decide +kernel
theorem dX9_resetsOne_84 : decode cX9_resetsOne 84 = .ok (.aload_n 0, 1) := by decide +kernel
theorem dX9_resetsOne_85 : decode cX9_resetsOne 85 = .ok (.iload_n 1, 1) := by decide +kernel
theorem dX9_resetsOne_86 : decode cX9_resetsOne 86 = .ok (.invokevirtual 98, 3) := by decide +kernel
theorem dX9_resetsOne_89 : decode cX9_resetsOne 89 = .ok (.istore_n 3, 1) := by decide +kernel
theorem dX9_resetsOne_90 : decode cX9_resetsOne 90 = .ok (.aload_n 0, 1) := by decide +kernel
theorem dX9_resetsOne_91 : decode cX9_resetsOne 91 = .ok (.getfield 7, 3) := by decide +kernel
theorem dX9_resetsOne_94 : decode cX9_resetsOne 94 = .ok (.iload_n 2, 1) := by decide +kernel
theorem dX9_resetsOne_95 : decode cX9_resetsOne 95 = .ok (.iload_n 1, 1) := by decide +kernel
theorem dX9_resetsOne_96 : decode cX9_resetsOne 96 = .ok (.iastore, 1) := by decide +kernel
theorem dX9_resetsOne_97 : decode cX9_resetsOne 97 = .ok (.aload_n 0, 1) := by decide +kernel
theorem dX9_resetsOne_98 : decode cX9_resetsOne 98 = .ok (.getfield 7, 3) := by decide +kernel
theorem dX9_resetsOne_101 : decode cX9_resetsOne 101 = .ok (.iload_n 2, 1) := by decide +kernel
theorem dX9_resetsOne_102 : decode cX9_resetsOne 102 = .ok (.iconst 1, 1) := by decide +kernel
theorem dX9_resetsOne_103 : decode cX9_resetsOne 103 = .ok (.iadd, 1) := by decide +kernel
theorem dX9_resetsOne_104 : decode cX9_resetsOne 104 = .ok (.aload_n 0, 1) := by decide +kernel
theorem dX9_resetsOne_105 : decode cX9_resetsOne 105 = .ok (.iload_n 1, 1) := by decide +kernel
theorem dX9_resetsOne_106 : decode cX9_resetsOne 106 = .ok (.invokevirtual 95, 3) := by decide +kernel
theorem dX9_resetsOne_109 : decode cX9_resetsOne 109 = .ok (.iastore, 1) := by decide +kernel
theorem dX9_resetsOne_110 : decode cX9_resetsOne 110 = .ok (.aload_n 0, 1) := by decide +kernel
theorem dX9_resetsOne_111 : decode cX9_resetsOne 111 = .ok (.getfield 7, 3) := by decide +kernel
theorem dX9_resetsOne_114 : decode cX9_resetsOne 114 = .ok (.iload_n 2, 1) := by decide +kernel
theorem dX9_resetsOne_115 : decode cX9_resetsOne 115 = .ok (.iconst 2, 1) := by decide +kernel
theorem dX9_resetsOne_116 : decode cX9_resetsOne 116 = .ok (.iadd, 1) := by decide +kernel
theorem dX9_resetsOne_117 : decode cX9_resetsOne 117 = .ok (.iload_n 3, 1) := by decide +kernel
theorem dX9_resetsOne_118 : decode cX9_resetsOne 118 = .ok (.iastore, 1) := by decide +kernel
theorem dX9_resetsOne_119 : decode cX9_resetsOne 119 = .ok (.aload_n 0, 1) := by decide +kernel
theorem dX9_resetsOne_120 : decode cX9_resetsOne 120 = .ok (.getfield 7, 3) := by decide +kernel
theorem dX9_resetsOne_123 : decode cX9_resetsOne 123 = .ok (.sipush 140, 3) := by decide +kernel
theorem dX9_resetsOne_126 : decode cX9_resetsOne 126 = .ok (.dup2, 1) := by decide +kernel
theorem dX9_resetsOne_127 : decode cX9_resetsOne 127 = .ok (.iaload, 1) := by decide +kernel
theorem dX9_resetsOne_128 : decode cX9_resetsOne 128 = .ok (.iconst 1, 1) := by decide +kernel
theorem dX9_resetsOne_129 : decode cX9_resetsOne 129 = .ok (.iadd, 1) := by decide +kernel
theorem dX9_resetsOne_130 : decode cX9_resetsOne 130 = .ok (.iastore, 1) := by decide +kernel
theorem dX9_resetsOne_131 : decode cX9_resetsOne 131 = .ok (.iconst 2, 1) := by decide +kernel
theorem dX9_resetsOne_132 : decode cX9_resetsOne 132 = .ok (.istore 4, 2) := by decide +kernel
theorem dX9_resetsOne_134 : decode cX9_resetsOne 134 = .ok (.iload 4, 2) := by decide +kernel
theorem dX9_resetsOne_136 : decode cX9_resetsOne 136 = .ok (.bipush 23, 2) := by decide +kernel
theorem dX9_resetsOne_138 : decode cX9_resetsOne 138 = .ok (.if_icmp .ge 45, 3) := by decide +kernel
theorem dX9_resetsOne_141 : decode cX9_resetsOne 141 = .ok (.aload_n 0, 1) := by decide +kernel
theorem dX9_resetsOne_142 : decode cX9_resetsOne 142 = .ok (.getfield 7, 3) := by decide +kernel
theorem dX9_resetsOne_145 : decode cX9_resetsOne 145 = .ok (.bipush 23, 2) := by decide +kernel
theorem dX9_resetsOne_147 : decode cX9_resetsOne 147 = .ok (.iload_n 1, 1) := by decide +kernel
theorem dX9_resetsOne_148 : decode cX9_resetsOne 148 = .ok (.imul, 1) := by decide +kernel
theorem dX9_resetsOne_149 : decode cX9_resetsOne 149 = .ok (.iload 4, 2) := by decide +kernel
theorem dX9_resetsOne_151 : decode cX9_resetsOne 151 = .ok (.iadd, 1) := by decide +kernel
theorem dX9_resetsOne_152 : decode cX9_resetsOne 152 = .ok (.iload 4, 2) := by decide +kernel
theorem dX9_resetsOne_154 : decode cX9_resetsOne 154 = .ok (.iconst 3, 1) := by decide +kernel
theorem dX9_resetsOne_155 : decode cX9_resetsOne 155 = .ok (.if_icmp .ne 20, 3) := by decide +kernel
theorem dX9_resetsOne_158 : decode cX9_resetsOne 158 = .ok (.aload_n 0, 1) := by decide +kernel
theorem dX9_resetsOne_159 : decode cX9_resetsOne 159 = .ok (.getfield 7, 3) := by decide +kernel
theorem dX9_resetsOne_162 : decode cX9_resetsOne 162 = .ok (.bipush 23, 2) := by decide +kernel
theorem dX9_resetsOne_164 : decode cX9_resetsOne 164 = .ok (.iload_n 1, 1) := by decide +kernel
theorem dX9_resetsOne_165 : decode cX9_resetsOne 165 = .ok (.imul, 1) := by decide +kernel
theorem dX9_resetsOne_166 : decode cX9_resetsOne 166 = .ok (.iload 4, 2) := by decide +kernel
theorem dX9_resetsOne_168 : decode cX9_resetsOne 168 = .ok (.iadd, 1) := by decide +kernel
theorem dX9_resetsOne_169 : decode cX9_resetsOne 169 = .ok (.iaload, 1) := by decide +kernel
theorem dX9_resetsOne_170 : decode cX9_resetsOne 170 = .ok (.iconst 1, 1) := by decide +kernel
theorem dX9_resetsOne_171 : decode cX9_resetsOne 171 = .ok (.iadd, 1) := by decide +kernel
theorem dX9_resetsOne_172 : decode cX9_resetsOne 172 = .ok (.goto 4, 3) := by decide +kernel
theorem dX9_resetsOne_175 : decode cX9_resetsOne 175 = .ok (.iconst 0, 1) := by decide +kernel
theorem dX9_resetsOne_176 : decode cX9_resetsOne 176 = .ok (.iastore, 1) := by decide +kernel
theorem dX9_resetsOne_177 : decode cX9_resetsOne 177 = .ok (.iinc 4 1, 3) := by decide +kernel
theorem dX9_resetsOne_180 : decode cX9_resetsOne 180 = .ok (.goto (-46), 3) := by decide +kernel
theorem dX9_resetsOne_183 : decode cX9_resetsOne 183 = .ok (.aload_n 0, 1) := by decide +kernel
theorem dX9_resetsOne_184 : decode cX9_resetsOne 184 = .ok (.iload_n 1, 1) := by decide +kernel
theorem dX9_resetsOne_185 : decode cX9_resetsOne 185 = .ok (.invokevirtual 104, 3) := by decide +kernel
theorem dX9_resetsOne_188 : decode cX9_resetsOne 188 = .ok (.iload_n 3, 1) := by decide +kernel
theorem dX9_resetsOne_189 : decode cX9_resetsOne 189 = .ok (.ireturn, 1) := by decide +kernel
set_option maxRecDepth 20000 in
theorem dX9_ends_0 : decode cX9_ends 0 = .ok (.iload_n 1, 1) := by decide +kernel
theorem dX9_ends_1 : decode cX9_ends 1 = .ok (.ifCond .ge 16, 3) := by decide +kernel
theorem dX9_ends_4 : decode cX9_ends 4 = .ok (.aload_n 0, 1) := by decide +kernel
theorem dX9_ends_5 : decode cX9_ends 5 = .ok (.getfield 13, 3) := by decide +kernel
theorem dX9_ends_8 : decode cX9_ends 8 = .ok (.aload_n 0, 1) := by decide +kernel
theorem dX9_ends_9 : decode cX9_ends 9 = .ok (.getfield 7, 3) := by decide +kernel
theorem dX9_ends_12 : decode cX9_ends 12 = .ok (.invokestatic 34, 3) := by decide +kernel
theorem dX9_ends_15 : decode cX9_ends 15 = .ok (.iload_n 1, 1) := by decide +kernel
theorem dX9_ends_16 : decode cX9_ends 16 = .ok (.ireturn, 1) := by decide +kernel
theorem dX9_ends_17 : decode cX9_ends 17 = .ok (.iload_n 1, 1) := by decide +kernel
theorem dX9_ends_18 : decode cX9_ends 18 = .ok (.istore_n 2, 1) := by decide +kernel
theorem dX9_ends_19 : decode cX9_ends 19 = .ok (.aload_n 0, 1) := by decide +kernel
theorem dX9_ends_20 : decode cX9_ends 20 = .ok (.invokevirtual 135, 3) := by decide +kernel
theorem dX9_ends_23 : decode cX9_ends 23 = .ok (.aload_n 0, 1) := by decide +kernel
theorem dX9_ends_24 : decode cX9_ends 24 = .ok (.invokevirtual 138, 3) := by decide +kernel
theorem dX9_ends_27 : decode cX9_ends 27 = .ok (.aload_n 0, 1) := by decide +kernel
theorem dX9_ends_28 : decode cX9_ends 28 = .ok (.invokevirtual 135, 3) := by decide +kernel
theorem dX9_ends_31 : decode cX9_ends 31 = .ok (.iload_n 2, 1) := by decide +kernel
theorem dX9_ends_32 : decode cX9_ends 32 = .ok (.ireturn, 1) := by decide +kernel
theorem dX9_swap_0 : decode cX9_swap 0 = .ok (.iconst 0, 1) := by decide +kernel
theorem dX9_swap_1 : decode cX9_swap 1 = .ok (.istore_n 1, 1) := by decide +kernel
theorem dX9_swap_2 : decode cX9_swap 2 = .ok (.iload_n 1, 1) := by decide +kernel
theorem dX9_swap_3 : decode cX9_swap 3 = .ok (.sipush 6165, 3) := by decide +kernel
theorem dX9_swap_6 : decode cX9_swap 6 = .ok (.if_icmp .ge 35, 3) := by decide +kernel
theorem dX9_swap_9 : decode cX9_swap 9 = .ok (.aload_n 0, 1) := by decide +kernel
theorem dX9_swap_10 : decode cX9_swap 10 = .ok (.getfield 7, 3) := by decide +kernel
theorem dX9_swap_13 : decode cX9_swap 13 = .ok (.iload_n 1, 1) := by decide +kernel
theorem dX9_swap_14 : decode cX9_swap 14 = .ok (.iaload, 1) := by decide +kernel
theorem dX9_swap_15 : decode cX9_swap 15 = .ok (.istore_n 2, 1) := by decide +kernel
theorem dX9_swap_16 : decode cX9_swap 16 = .ok (.aload_n 0, 1) := by decide +kernel
theorem dX9_swap_17 : decode cX9_swap 17 = .ok (.getfield 7, 3) := by decide +kernel
theorem dX9_swap_20 : decode cX9_swap 20 = .ok (.iload_n 1, 1) := by decide +kernel
theorem dX9_swap_21 : decode cX9_swap 21 = .ok (.aload_n 0, 1) := by decide +kernel
theorem dX9_swap_22 : decode cX9_swap 22 = .ok (.getfield 13, 3) := by decide +kernel
theorem dX9_swap_25 : decode cX9_swap 25 = .ok (.iload_n 1, 1) := by decide +kernel
theorem dX9_swap_26 : decode cX9_swap 26 = .ok (.iaload, 1) := by decide +kernel
theorem dX9_swap_27 : decode cX9_swap 27 = .ok (.iastore, 1) := by decide +kernel
theorem dX9_swap_28 : decode cX9_swap 28 = .ok (.aload_n 0, 1) := by decide +kernel
theorem dX9_swap_29 : decode cX9_swap 29 = .ok (.getfield 13, 3) := by decide +kernel
theorem dX9_swap_32 : decode cX9_swap 32 = .ok (.iload_n 1, 1) := by decide +kernel
theorem dX9_swap_33 : decode cX9_swap 33 = .ok (.iload_n 2, 1) := by decide +kernel
theorem dX9_swap_34 : decode cX9_swap 34 = .ok (.iastore, 1) := by decide +kernel
theorem dX9_swap_35 : decode cX9_swap 35 = .ok (.iinc 1 1, 3) := by decide +kernel
theorem dX9_swap_38 : decode cX9_swap 38 = .ok (.goto (-36), 3) := by decide +kernel
theorem dX9_swap_41 : decode cX9_swap 41 = .ok (.return_, 1) := by decide +kernel
set_option maxRecDepth 20000 in
theorem dX9_table_0 : decode cX9_table 0 = .ok (.aload_n 0, 1) := by decide +kernel
theorem dX9_table_1 : decode cX9_table 1 = .ok (.getfield 7, 3) := by decide +kernel
theorem dX9_table_4 : decode cX9_table 4 = .ok (.aload_n 0, 1) := by decide +kernel
theorem dX9_table_5 : decode cX9_table 5 = .ok (.getfield 13, 3) := by decide +kernel
theorem dX9_table_8 : decode cX9_table 8 = .ok (.invokestatic 34, 3) := by decide +kernel
theorem dX9_table_11 : decode cX9_table 11 = .ok (.aload_n 0, 1) := by decide +kernel
theorem dX9_table_12 : decode cX9_table 12 = .ok (.aload_n 0, 1) := by decide +kernel
theorem dX9_table_13 : decode cX9_table 13 = .ok (.iload_n 1, 1) := by decide +kernel
theorem dX9_table_14 : decode cX9_table 14 = .ok (.iload_n 2, 1) := by decide +kernel
theorem dX9_table_15 : decode cX9_table 15 = .ok (.invokevirtual 141, 3) := by decide +kernel
theorem dX9_table_18 : decode cX9_table 18 = .ok (.invokevirtual 144, 3) := by decide +kernel
theorem dX9_table_21 : decode cX9_table 21 = .ok (.ireturn, 1) := by decide +kernel
set_option maxRecDepth 20000 in
theorem dX9_add_0 : decode cX9_add 0 = .ok (.aload_n 0, 1) := by decide +kernel
theorem dX9_add_1 : decode cX9_add 1 = .ok (.getfield 7, 3) := by decide +kernel
theorem dX9_add_4 : decode cX9_add 4 = .ok (.aload_n 0, 1) := by decide +kernel
theorem dX9_add_5 : decode cX9_add 5 = .ok (.getfield 13, 3) := by decide +kernel
theorem dX9_add_8 : decode cX9_add 8 = .ok (.invokestatic 34, 3) := by decide +kernel
theorem dX9_add_11 : decode cX9_add 11 = .ok (.aload_n 0, 1) := by decide +kernel
theorem dX9_add_12 : decode cX9_add 12 = .ok (.aload_n 0, 1) := by decide +kernel
theorem dX9_add_13 : decode cX9_add 13 = .ok (.iload_n 1, 1) := by decide +kernel
theorem dX9_add_14 : decode cX9_add 14 = .ok (.iload_n 2, 1) := by decide +kernel
theorem dX9_add_15 : decode cX9_add 15 = .ok (.iconst 0, 1) := by decide +kernel
theorem dX9_add_16 : decode cX9_add 16 = .ok (.iconst 1, 1) := by decide +kernel
theorem dX9_add_17 : decode cX9_add 17 = .ok (.invokevirtual 147, 3) := by decide +kernel
theorem dX9_add_20 : decode cX9_add 20 = .ok (.invokevirtual 144, 3) := by decide +kernel
theorem dX9_add_23 : decode cX9_add 23 = .ok (.ireturn, 1) := by decide +kernel
set_option maxRecDepth 20000 in
theorem dX9_addRow_0 : decode cX9_addRow 0 = .ok (.aload_n 0, 1) := by decide +kernel
theorem dX9_addRow_1 : decode cX9_addRow 1 = .ok (.getfield 7, 3) := by decide +kernel
theorem dX9_addRow_4 : decode cX9_addRow 4 = .ok (.aload_n 0, 1) := by decide +kernel
theorem dX9_addRow_5 : decode cX9_addRow 5 = .ok (.getfield 13, 3) := by decide +kernel
theorem dX9_addRow_8 : decode cX9_addRow 8 = .ok (.invokestatic 34, 3) := by decide +kernel
theorem dX9_addRow_11 : decode cX9_addRow 11 = .ok (.aload_n 0, 1) := by decide +kernel
theorem dX9_addRow_12 : decode cX9_addRow 12 = .ok (.aload_n 0, 1) := by decide +kernel
theorem dX9_addRow_13 : decode cX9_addRow 13 = .ok (.iload_n 1, 1) := by decide +kernel
theorem dX9_addRow_14 : decode cX9_addRow 14 = .ok (.iload_n 2, 1) := by decide +kernel
theorem dX9_addRow_15 : decode cX9_addRow 15 = .ok (.iload_n 3, 1) := by decide +kernel
theorem dX9_addRow_16 : decode cX9_addRow 16 = .ok (.iload 4, 2) := by decide +kernel
theorem dX9_addRow_18 : decode cX9_addRow 18 = .ok (.invokevirtual 147, 3) := by decide +kernel
theorem dX9_addRow_21 : decode cX9_addRow 21 = .ok (.invokevirtual 144, 3) := by decide +kernel
theorem dX9_addRow_24 : decode cX9_addRow 24 = .ok (.ireturn, 1) := by decide +kernel
set_option maxRecDepth 20000 in
theorem dX9_merge_0 : decode cX9_merge 0 = .ok (.aload_n 0, 1) := by decide +kernel
theorem dX9_merge_1 : decode cX9_merge 1 = .ok (.getfield 7, 3) := by decide +kernel
theorem dX9_merge_4 : decode cX9_merge 4 = .ok (.aload_n 0, 1) := by decide +kernel
theorem dX9_merge_5 : decode cX9_merge 5 = .ok (.getfield 13, 3) := by decide +kernel
theorem dX9_merge_8 : decode cX9_merge 8 = .ok (.invokestatic 34, 3) := by decide +kernel
theorem dX9_merge_11 : decode cX9_merge 11 = .ok (.aload_n 0, 1) := by decide +kernel
theorem dX9_merge_12 : decode cX9_merge 12 = .ok (.aload_n 0, 1) := by decide +kernel
theorem dX9_merge_13 : decode cX9_merge 13 = .ok (.iload_n 1, 1) := by decide +kernel
theorem dX9_merge_14 : decode cX9_merge 14 = .ok (.iload_n 2, 1) := by decide +kernel
theorem dX9_merge_15 : decode cX9_merge 15 = .ok (.invokevirtual 151, 3) := by decide +kernel
theorem dX9_merge_18 : decode cX9_merge 18 = .ok (.invokevirtual 144, 3) := by decide +kernel
theorem dX9_merge_21 : decode cX9_merge 21 = .ok (.ireturn, 1) := by decide +kernel
set_option maxRecDepth 20000 in
theorem dX9_reset_0 : decode cX9_reset 0 = .ok (.aload_n 0, 1) := by decide +kernel
theorem dX9_reset_1 : decode cX9_reset 1 = .ok (.getfield 7, 3) := by decide +kernel
theorem dX9_reset_4 : decode cX9_reset 4 = .ok (.aload_n 0, 1) := by decide +kernel
theorem dX9_reset_5 : decode cX9_reset 5 = .ok (.getfield 13, 3) := by decide +kernel
theorem dX9_reset_8 : decode cX9_reset 8 = .ok (.invokestatic 34, 3) := by decide +kernel
theorem dX9_reset_11 : decode cX9_reset 11 = .ok (.aload_n 0, 1) := by decide +kernel
theorem dX9_reset_12 : decode cX9_reset 12 = .ok (.aload_n 0, 1) := by decide +kernel
theorem dX9_reset_13 : decode cX9_reset 13 = .ok (.iload_n 1, 1) := by decide +kernel
theorem dX9_reset_14 : decode cX9_reset 14 = .ok (.invokevirtual 154, 3) := by decide +kernel
theorem dX9_reset_17 : decode cX9_reset 17 = .ok (.invokevirtual 144, 3) := by decide +kernel
theorem dX9_reset_20 : decode cX9_reset 20 = .ok (.ireturn, 1) := by decide +kernel
set_option maxRecDepth 20000 in
theorem dX9_tableOf_0 : decode cX9_tableOf 0 = .ok (.aload_n 0, 1) := by decide +kernel
theorem dX9_tableOf_1 : decode cX9_tableOf 1 = .ok (.iload_n 1, 1) := by decide +kernel
theorem dX9_tableOf_2 : decode cX9_tableOf 2 = .ok (.invokevirtual 116, 3) := by decide +kernel
theorem dX9_tableOf_5 : decode cX9_tableOf 5 = .ok (.ifCond .eq 13, 3) := by decide +kernel
theorem dX9_tableOf_8 : decode cX9_tableOf 8 = .ok (.iload_n 2, 1) := by decide +kernel
theorem dX9_tableOf_9 : decode cX9_tableOf 9 = .ok (.iconst 0, 1) := by decide +kernel
theorem dX9_tableOf_10 : decode cX9_tableOf 10 = .ok (.bipush 9, 2) := by decide +kernel
theorem dX9_tableOf_12 : decode cX9_tableOf 12 = .ok (.invokestatic 49, 3) := by decide +kernel
theorem dX9_tableOf_15 : decode cX9_tableOf 15 = .ok (.ifCond .ne 5, 3) := by decide +kernel
theorem dX9_tableOf_18 : decode cX9_tableOf 18 = .ok (.iconst (-1), 1) := by decide +kernel
theorem dX9_tableOf_19 : decode cX9_tableOf 19 = .ok (.ireturn, 1) := by decide +kernel
theorem dX9_tableOf_20 : decode cX9_tableOf 20 = .ok (.bipush 23, 2) := by decide +kernel
theorem dX9_tableOf_22 : decode cX9_tableOf 22 = .ok (.iload_n 1, 1) := by decide +kernel
theorem dX9_tableOf_23 : decode cX9_tableOf 23 = .ok (.imul, 1) := by decide +kernel
theorem dX9_tableOf_24 : decode cX9_tableOf 24 = .ok (.istore_n 3, 1) := by decide +kernel
theorem dX9_tableOf_25 : decode cX9_tableOf 25 = .ok (.iload_n 2, 1) := by decide +kernel
theorem dX9_tableOf_26 : decode cX9_tableOf 26 = .ok (.tableswitch 117 0 8 #[50, 50, 59, 65, 71, 80, 89, 99, 108], 50) := by decide +kernel
theorem dX9_tableOf_76 : decode cX9_tableOf 76 = .ok (.aload_n 0, 1) := by decide +kernel
theorem dX9_tableOf_77 : decode cX9_tableOf 77 = .ok (.getfield 7, 3) := by decide +kernel
theorem dX9_tableOf_80 : decode cX9_tableOf 80 = .ok (.iload_n 3, 1) := by decide +kernel
theorem dX9_tableOf_81 : decode cX9_tableOf 81 = .ok (.iload_n 2, 1) := by decide +kernel
theorem dX9_tableOf_82 : decode cX9_tableOf 82 = .ok (.iadd, 1) := by decide +kernel
theorem dX9_tableOf_83 : decode cX9_tableOf 83 = .ok (.iaload, 1) := by decide +kernel
theorem dX9_tableOf_84 : decode cX9_tableOf 84 = .ok (.ireturn, 1) := by decide +kernel
theorem dX9_tableOf_85 : decode cX9_tableOf 85 = .ok (.aload_n 0, 1) := by decide +kernel
theorem dX9_tableOf_86 : decode cX9_tableOf 86 = .ok (.iload_n 1, 1) := by decide +kernel
theorem dX9_tableOf_87 : decode cX9_tableOf 87 = .ok (.invokevirtual 95, 3) := by decide +kernel
theorem dX9_tableOf_90 : decode cX9_tableOf 90 = .ok (.ireturn, 1) := by decide +kernel
theorem dX9_tableOf_91 : decode cX9_tableOf 91 = .ok (.aload_n 0, 1) := by decide +kernel
theorem dX9_tableOf_92 : decode cX9_tableOf 92 = .ok (.iload_n 1, 1) := by decide +kernel
theorem dX9_tableOf_93 : decode cX9_tableOf 93 = .ok (.invokevirtual 98, 3) := by decide +kernel
theorem dX9_tableOf_96 : decode cX9_tableOf 96 = .ok (.ireturn, 1) := by decide +kernel
theorem dX9_tableOf_97 : decode cX9_tableOf 97 = .ok (.aload_n 0, 1) := by decide +kernel
theorem dX9_tableOf_98 : decode cX9_tableOf 98 = .ok (.getfield 7, 3) := by decide +kernel
theorem dX9_tableOf_101 : decode cX9_tableOf 101 = .ok (.iload_n 3, 1) := by decide +kernel
theorem dX9_tableOf_102 : decode cX9_tableOf 102 = .ok (.invokestatic 86, 3) := by decide +kernel
theorem dX9_tableOf_105 : decode cX9_tableOf 105 = .ok (.ireturn, 1) := by decide +kernel
theorem dX9_tableOf_106 : decode cX9_tableOf 106 = .ok (.aload_n 0, 1) := by decide +kernel
theorem dX9_tableOf_107 : decode cX9_tableOf 107 = .ok (.getfield 7, 3) := by decide +kernel
theorem dX9_tableOf_110 : decode cX9_tableOf 110 = .ok (.iload_n 3, 1) := by decide +kernel
theorem dX9_tableOf_111 : decode cX9_tableOf 111 = .ok (.invokestatic 89, 3) := by decide +kernel
theorem dX9_tableOf_114 : decode cX9_tableOf 114 = .ok (.ireturn, 1) := by decide +kernel
theorem dX9_tableOf_115 : decode cX9_tableOf 115 = .ok (.sipush 1000, 3) := by decide +kernel
theorem dX9_tableOf_118 : decode cX9_tableOf 118 = .ok (.aload_n 0, 1) := by decide +kernel
theorem dX9_tableOf_119 : decode cX9_tableOf 119 = .ok (.iload_n 1, 1) := by decide +kernel
theorem dX9_tableOf_120 : decode cX9_tableOf 120 = .ok (.invokevirtual 157, 3) := by decide +kernel
theorem dX9_tableOf_123 : decode cX9_tableOf 123 = .ok (.iadd, 1) := by decide +kernel
theorem dX9_tableOf_124 : decode cX9_tableOf 124 = .ok (.ireturn, 1) := by decide +kernel
theorem dX9_tableOf_125 : decode cX9_tableOf 125 = .ok (.aload_n 0, 1) := by decide +kernel
theorem dX9_tableOf_126 : decode cX9_tableOf 126 = .ok (.getfield 7, 3) := by decide +kernel
theorem dX9_tableOf_129 : decode cX9_tableOf 129 = .ok (.iload_n 3, 1) := by decide +kernel
theorem dX9_tableOf_130 : decode cX9_tableOf 130 = .ok (.iconst 2, 1) := by decide +kernel
theorem dX9_tableOf_131 : decode cX9_tableOf 131 = .ok (.iadd, 1) := by decide +kernel
theorem dX9_tableOf_132 : decode cX9_tableOf 132 = .ok (.iaload, 1) := by decide +kernel
theorem dX9_tableOf_133 : decode cX9_tableOf 133 = .ok (.ireturn, 1) := by decide +kernel
theorem dX9_tableOf_134 : decode cX9_tableOf 134 = .ok (.aload_n 0, 1) := by decide +kernel
theorem dX9_tableOf_135 : decode cX9_tableOf 135 = .ok (.getfield 7, 3) := by decide +kernel
theorem dX9_tableOf_138 : decode cX9_tableOf 138 = .ok (.iload_n 3, 1) := by decide +kernel
theorem dX9_tableOf_139 : decode cX9_tableOf 139 = .ok (.iconst 3, 1) := by decide +kernel
theorem dX9_tableOf_140 : decode cX9_tableOf 140 = .ok (.iadd, 1) := by decide +kernel
theorem dX9_tableOf_141 : decode cX9_tableOf 141 = .ok (.iaload, 1) := by decide +kernel
theorem dX9_tableOf_142 : decode cX9_tableOf 142 = .ok (.ireturn, 1) := by decide +kernel
theorem dX9_tableOf_143 : decode cX9_tableOf 143 = .ok (.aload_n 0, 1) := by decide +kernel
theorem dX9_tableOf_144 : decode cX9_tableOf 144 = .ok (.getfield 7, 3) := by decide +kernel
theorem dX9_tableOf_147 : decode cX9_tableOf 147 = .ok (.iload_n 3, 1) := by decide +kernel
theorem dX9_tableOf_148 : decode cX9_tableOf 148 = .ok (.invokestatic 83, 3) := by decide +kernel
theorem dX9_tableOf_151 : decode cX9_tableOf 151 = .ok (.ireturn, 1) := by decide +kernel
set_option maxRecDepth 20000 in
theorem dX9_keptAt_0 : decode cX9_keptAt 0 = .ok (.aload_n 0, 1) := by decide +kernel
theorem dX9_keptAt_1 : decode cX9_keptAt 1 = .ok (.iload_n 1, 1) := by decide +kernel
theorem dX9_keptAt_2 : decode cX9_keptAt 2 = .ok (.invokevirtual 116, 3) := by decide +kernel
theorem dX9_keptAt_5 : decode cX9_keptAt 5 = .ok (.ifCond .eq 7, 3) := by decide +kernel
theorem dX9_keptAt_8 : decode cX9_keptAt 8 = .ok (.iload_n 2, 1) := by decide +kernel
theorem dX9_keptAt_9 : decode cX9_keptAt 9 = .ok (.ifCond .ge 5, 3) := by decide +kernel
theorem dX9_keptAt_12 : decode cX9_keptAt 12 = .ok (.iconst (-1), 1) := by decide +kernel
theorem dX9_keptAt_13 : decode cX9_keptAt 13 = .ok (.ireturn, 1) := by decide +kernel
theorem dX9_keptAt_14 : decode cX9_keptAt 14 = .ok (.bipush 23, 2) := by decide +kernel
theorem dX9_keptAt_16 : decode cX9_keptAt 16 = .ok (.iload_n 1, 1) := by decide +kernel
theorem dX9_keptAt_17 : decode cX9_keptAt 17 = .ok (.imul, 1) := by decide +kernel
theorem dX9_keptAt_18 : decode cX9_keptAt 18 = .ok (.istore_n 3, 1) := by decide +kernel
theorem dX9_keptAt_19 : decode cX9_keptAt 19 = .ok (.aload_n 0, 1) := by decide +kernel
theorem dX9_keptAt_20 : decode cX9_keptAt 20 = .ok (.getfield 7, 3) := by decide +kernel
theorem dX9_keptAt_23 : decode cX9_keptAt 23 = .ok (.iload_n 3, 1) := by decide +kernel
theorem dX9_keptAt_24 : decode cX9_keptAt 24 = .ok (.iconst 0, 1) := by decide +kernel
theorem dX9_keptAt_25 : decode cX9_keptAt 25 = .ok (.iadd, 1) := by decide +kernel
theorem dX9_keptAt_26 : decode cX9_keptAt 26 = .ok (.iaload, 1) := by decide +kernel
theorem dX9_keptAt_27 : decode cX9_keptAt 27 = .ok (.lookupswitch 77 #[(0, 25), (1, 48)], 25) := by decide +kernel
theorem dX9_keptAt_52 : decode cX9_keptAt 52 = .ok (.iload_n 2, 1) := by decide +kernel
theorem dX9_keptAt_53 : decode cX9_keptAt 53 = .ok (.bipush 31, 2) := by decide +kernel
theorem dX9_keptAt_55 : decode cX9_keptAt 55 = .ok (.if_icmp .le 7, 3) := by decide +kernel
theorem dX9_keptAt_58 : decode cX9_keptAt 58 = .ok (.iconst (-1), 1) := by decide +kernel
theorem dX9_keptAt_59 : decode cX9_keptAt 59 = .ok (.goto 15, 3) := by decide +kernel
theorem dX9_keptAt_62 : decode cX9_keptAt 62 = .ok (.aload_n 0, 1) := by decide +kernel
theorem dX9_keptAt_63 : decode cX9_keptAt 63 = .ok (.getfield 7, 3) := by decide +kernel
theorem dX9_keptAt_66 : decode cX9_keptAt 66 = .ok (.iload_n 3, 1) := by decide +kernel
theorem dX9_keptAt_67 : decode cX9_keptAt 67 = .ok (.iconst 4, 1) := by decide +kernel
theorem dX9_keptAt_68 : decode cX9_keptAt 68 = .ok (.iadd, 1) := by decide +kernel
theorem dX9_keptAt_69 : decode cX9_keptAt 69 = .ok (.iaload, 1) := by decide +kernel
theorem dX9_keptAt_70 : decode cX9_keptAt 70 = .ok (.iload_n 2, 1) := by decide +kernel
theorem dX9_keptAt_71 : decode cX9_keptAt 71 = .ok (.ishr, 1) := by decide +kernel
theorem dX9_keptAt_72 : decode cX9_keptAt 72 = .ok (.iconst 1, 1) := by decide +kernel
theorem dX9_keptAt_73 : decode cX9_keptAt 73 = .ok (.iand, 1) := by decide +kernel
theorem dX9_keptAt_74 : decode cX9_keptAt 74 = .ok (.ireturn, 1) := by decide +kernel
theorem dX9_keptAt_75 : decode cX9_keptAt 75 = .ok (.iload_n 2, 1) := by decide +kernel
theorem dX9_keptAt_76 : decode cX9_keptAt 76 = .ok (.aload_n 0, 1) := by decide +kernel
theorem dX9_keptAt_77 : decode cX9_keptAt 77 = .ok (.getfield 7, 3) := by decide +kernel
theorem dX9_keptAt_80 : decode cX9_keptAt 80 = .ok (.iload_n 3, 1) := by decide +kernel
theorem dX9_keptAt_81 : decode cX9_keptAt 81 = .ok (.iconst 5, 1) := by decide +kernel
theorem dX9_keptAt_82 : decode cX9_keptAt 82 = .ok (.iadd, 1) := by decide +kernel
theorem dX9_keptAt_83 : decode cX9_keptAt 83 = .ok (.iaload, 1) := by decide +kernel
theorem dX9_keptAt_84 : decode cX9_keptAt 84 = .ok (.if_icmp .ge 17, 3) := by decide +kernel
theorem dX9_keptAt_87 : decode cX9_keptAt 87 = .ok (.aload_n 0, 1) := by decide +kernel
theorem dX9_keptAt_88 : decode cX9_keptAt 88 = .ok (.getfield 7, 3) := by decide +kernel
theorem dX9_keptAt_91 : decode cX9_keptAt 91 = .ok (.iload_n 3, 1) := by decide +kernel
theorem dX9_keptAt_92 : decode cX9_keptAt 92 = .ok (.bipush 6, 2) := by decide +kernel
theorem dX9_keptAt_94 : decode cX9_keptAt 94 = .ok (.iadd, 1) := by decide +kernel
theorem dX9_keptAt_95 : decode cX9_keptAt 95 = .ok (.iload_n 2, 1) := by decide +kernel
theorem dX9_keptAt_96 : decode cX9_keptAt 96 = .ok (.iadd, 1) := by decide +kernel
theorem dX9_keptAt_97 : decode cX9_keptAt 97 = .ok (.iaload, 1) := by decide +kernel
theorem dX9_keptAt_98 : decode cX9_keptAt 98 = .ok (.goto 5, 3) := by decide +kernel
theorem dX9_keptAt_101 : decode cX9_keptAt 101 = .ok (.bipush (-4), 2) := by decide +kernel
theorem dX9_keptAt_103 : decode cX9_keptAt 103 = .ok (.ireturn, 1) := by decide +kernel
theorem dX9_keptAt_104 : decode cX9_keptAt 104 = .ok (.iload_n 2, 1) := by decide +kernel
theorem dX9_keptAt_105 : decode cX9_keptAt 105 = .ok (.bipush 7, 2) := by decide +kernel
theorem dX9_keptAt_107 : decode cX9_keptAt 107 = .ok (.if_icmp .le 7, 3) := by decide +kernel
theorem dX9_keptAt_110 : decode cX9_keptAt 110 = .ok (.iconst (-1), 1) := by decide +kernel
theorem dX9_keptAt_111 : decode cX9_keptAt 111 = .ok (.goto 14, 3) := by decide +kernel
theorem dX9_keptAt_114 : decode cX9_keptAt 114 = .ok (.aload_n 0, 1) := by decide +kernel
theorem dX9_keptAt_115 : decode cX9_keptAt 115 = .ok (.getfield 7, 3) := by decide +kernel
theorem dX9_keptAt_118 : decode cX9_keptAt 118 = .ok (.iload_n 3, 1) := by decide +kernel
theorem dX9_keptAt_119 : decode cX9_keptAt 119 = .ok (.bipush 14, 2) := by decide +kernel
theorem dX9_keptAt_121 : decode cX9_keptAt 121 = .ok (.iadd, 1) := by decide +kernel
theorem dX9_keptAt_122 : decode cX9_keptAt 122 = .ok (.iload_n 2, 1) := by decide +kernel
theorem dX9_keptAt_123 : decode cX9_keptAt 123 = .ok (.iadd, 1) := by decide +kernel
theorem dX9_keptAt_124 : decode cX9_keptAt 124 = .ok (.iaload, 1) := by decide +kernel
theorem dX9_keptAt_125 : decode cX9_keptAt 125 = .ok (.ireturn, 1) := by decide +kernel
set_option maxRecDepth 20000 in
theorem dX9_sawAt_0 : decode cX9_sawAt 0 = .ok (.aload_n 0, 1) := by decide +kernel
theorem dX9_sawAt_1 : decode cX9_sawAt 1 = .ok (.iload_n 1, 1) := by decide +kernel
theorem dX9_sawAt_2 : decode cX9_sawAt 2 = .ok (.invokevirtual 116, 3) := by decide +kernel
theorem dX9_sawAt_5 : decode cX9_sawAt 5 = .ok (.ifCond .eq 16, 3) := by decide +kernel
theorem dX9_sawAt_8 : decode cX9_sawAt 8 = .ok (.iload_n 2, 1) := by decide +kernel
theorem dX9_sawAt_9 : decode cX9_sawAt 9 = .ok (.ifCond .lt 12, 3) := by decide +kernel
theorem dX9_sawAt_12 : decode cX9_sawAt 12 = .ok (.iload_n 3, 1) := by decide +kernel
theorem dX9_sawAt_13 : decode cX9_sawAt 13 = .ok (.iconst 0, 1) := by decide +kernel
theorem dX9_sawAt_14 : decode cX9_sawAt 14 = .ok (.iconst 1, 1) := by decide +kernel
theorem dX9_sawAt_15 : decode cX9_sawAt 15 = .ok (.invokestatic 49, 3) := by decide +kernel
theorem dX9_sawAt_18 : decode cX9_sawAt 18 = .ok (.ifCond .ne 5, 3) := by decide +kernel
theorem dX9_sawAt_21 : decode cX9_sawAt 21 = .ok (.iconst (-1), 1) := by decide +kernel
theorem dX9_sawAt_22 : decode cX9_sawAt 22 = .ok (.ireturn, 1) := by decide +kernel
theorem dX9_sawAt_23 : decode cX9_sawAt 23 = .ok (.iconst 0, 1) := by decide +kernel
theorem dX9_sawAt_24 : decode cX9_sawAt 24 = .ok (.istore 4, 2) := by decide +kernel
theorem dX9_sawAt_26 : decode cX9_sawAt 26 = .ok (.iconst 0, 1) := by decide +kernel
theorem dX9_sawAt_27 : decode cX9_sawAt 27 = .ok (.istore 5, 2) := by decide +kernel
theorem dX9_sawAt_29 : decode cX9_sawAt 29 = .ok (.iload 5, 2) := by decide +kernel
theorem dX9_sawAt_31 : decode cX9_sawAt 31 = .ok (.sipush 1000, 3) := by decide +kernel
theorem dX9_sawAt_34 : decode cX9_sawAt 34 = .ok (.if_icmp .ge 68, 3) := by decide +kernel
theorem dX9_sawAt_37 : decode cX9_sawAt 37 = .ok (.aload_n 0, 1) := by decide +kernel
theorem dX9_sawAt_38 : decode cX9_sawAt 38 = .ok (.getfield 7, 3) := by decide +kernel
theorem dX9_sawAt_41 : decode cX9_sawAt 41 = .ok (.sipush 165, 3) := by decide +kernel
theorem dX9_sawAt_44 : decode cX9_sawAt 44 = .ok (.sipush 1000, 3) := by decide +kernel
theorem dX9_sawAt_47 : decode cX9_sawAt 47 = .ok (.iload_n 1, 1) := by decide +kernel
theorem dX9_sawAt_48 : decode cX9_sawAt 48 = .ok (.imul, 1) := by decide +kernel
theorem dX9_sawAt_49 : decode cX9_sawAt 49 = .ok (.iadd, 1) := by decide +kernel
theorem dX9_sawAt_50 : decode cX9_sawAt 50 = .ok (.iload 5, 2) := by decide +kernel
theorem dX9_sawAt_52 : decode cX9_sawAt 52 = .ok (.iadd, 1) := by decide +kernel
theorem dX9_sawAt_53 : decode cX9_sawAt 53 = .ok (.iaload, 1) := by decide +kernel
theorem dX9_sawAt_54 : decode cX9_sawAt 54 = .ok (.istore 6, 2) := by decide +kernel
theorem dX9_sawAt_56 : decode cX9_sawAt 56 = .ok (.iload 6, 2) := by decide +kernel
theorem dX9_sawAt_58 : decode cX9_sawAt 58 = .ok (.ifCond .le 23, 3) := by decide +kernel
theorem dX9_sawAt_61 : decode cX9_sawAt 61 = .ok (.iload 4, 2) := by decide +kernel
theorem dX9_sawAt_63 : decode cX9_sawAt 63 = .ok (.iload_n 2, 1) := by decide +kernel
theorem dX9_sawAt_64 : decode cX9_sawAt 64 = .ok (.if_icmp .ne 17, 3) := by decide +kernel
theorem dX9_sawAt_67 : decode cX9_sawAt 67 = .ok (.iload_n 3, 1) := by decide +kernel
theorem dX9_sawAt_68 : decode cX9_sawAt 68 = .ok (.ifCond .ne 8, 3) := by decide +kernel
theorem dX9_sawAt_71 : decode cX9_sawAt 71 = .ok (.iload 5, 2) := by decide +kernel
theorem dX9_sawAt_73 : decode cX9_sawAt 73 = .ok (.goto 7, 3) := by decide +kernel
theorem dX9_sawAt_76 : decode cX9_sawAt 76 = .ok (.iload 6, 2) := by decide +kernel
theorem dX9_sawAt_78 : decode cX9_sawAt 78 = .ok (.iconst 1, 1) := by decide +kernel
theorem dX9_sawAt_79 : decode cX9_sawAt 79 = .ok (.isub, 1) := by decide +kernel
theorem dX9_sawAt_80 : decode cX9_sawAt 80 = .ok (.ireturn, 1) := by decide +kernel
theorem dX9_sawAt_81 : decode cX9_sawAt 81 = .ok (.iload 4, 2) := by decide +kernel
theorem dX9_sawAt_83 : decode cX9_sawAt 83 = .ok (.iload 6, 2) := by decide +kernel
theorem dX9_sawAt_85 : decode cX9_sawAt 85 = .ok (.ifCond .le 7, 3) := by decide +kernel
theorem dX9_sawAt_88 : decode cX9_sawAt 88 = .ok (.iconst 1, 1) := by decide +kernel
theorem dX9_sawAt_89 : decode cX9_sawAt 89 = .ok (.goto 4, 3) := by decide +kernel
theorem dX9_sawAt_92 : decode cX9_sawAt 92 = .ok (.iconst 0, 1) := by decide +kernel
theorem dX9_sawAt_93 : decode cX9_sawAt 93 = .ok (.iadd, 1) := by decide +kernel
theorem dX9_sawAt_94 : decode cX9_sawAt 94 = .ok (.istore 4, 2) := by decide +kernel
theorem dX9_sawAt_96 : decode cX9_sawAt 96 = .ok (.iinc 5 1, 3) := by decide +kernel
theorem dX9_sawAt_99 : decode cX9_sawAt 99 = .ok (.goto (-70), 3) := by decide +kernel
theorem dX9_sawAt_102 : decode cX9_sawAt 102 = .ok (.bipush (-4), 2) := by decide +kernel
theorem dX9_sawAt_104 : decode cX9_sawAt 104 = .ok (.ireturn, 1) := by decide +kernel
set_option maxRecDepth 20000 in
theorem dX9_hash_0 : decode cX9_hash 0 = .ok (.iload_n 1, 1) := by decide +kernel
theorem dX9_hash_1 : decode cX9_hash 1 = .ok (.invokestatic 120, 3) := by decide +kernel
theorem dX9_hash_4 : decode cX9_hash 4 = .ok (.ifCond .eq 21, 3) := by decide +kernel
theorem dX9_hash_7 : decode cX9_hash 7 = .ok (.iload_n 2, 1) := by decide +kernel
theorem dX9_hash_8 : decode cX9_hash 8 = .ok (.iconst 0, 1) := by decide +kernel
theorem dX9_hash_9 : decode cX9_hash 9 = .ok (.bipush 9, 2) := by decide +kernel
theorem dX9_hash_11 : decode cX9_hash 11 = .ok (.invokestatic 49, 3) := by decide +kernel
theorem dX9_hash_14 : decode cX9_hash 14 = .ok (.ifCond .eq 11, 3) := by decide +kernel
theorem dX9_hash_17 : decode cX9_hash 17 = .ok (.iload_n 1, 1) := by decide +kernel
theorem dX9_hash_18 : decode cX9_hash 18 = .ok (.iload_n 2, 1) := by decide +kernel
theorem dX9_hash_19 : decode cX9_hash 19 = .ok (.invokestatic 107, 3) := by decide +kernel
theorem dX9_hash_22 : decode cX9_hash 22 = .ok (.goto 4, 3) := by decide +kernel
theorem dX9_hash_25 : decode cX9_hash 25 = .ok (.iconst (-1), 1) := by decide +kernel
theorem dX9_hash_26 : decode cX9_hash 26 = .ok (.ireturn, 1) := by decide +kernel
theorem dX9_laysMix_0 : decode cX9_laysMix 0 = .ok (.iconst 0, 1) := by decide +kernel
theorem dX9_laysMix_1 : decode cX9_laysMix 1 = .ok (.istore_n 2, 1) := by decide +kernel
theorem dX9_laysMix_2 : decode cX9_laysMix 2 = .ok (.iload_n 2, 1) := by decide +kernel
theorem dX9_laysMix_3 : decode cX9_laysMix 3 = .ok (.bipush 23, 2) := by decide +kernel
theorem dX9_laysMix_5 : decode cX9_laysMix 5 = .ok (.if_icmp .ge 26, 3) := by decide +kernel
theorem dX9_laysMix_8 : decode cX9_laysMix 8 = .ok (.aload_n 0, 1) := by decide +kernel
theorem dX9_laysMix_9 : decode cX9_laysMix 9 = .ok (.getfield 28, 3) := by decide +kernel
theorem dX9_laysMix_12 : decode cX9_laysMix 12 = .ok (.iload_n 2, 1) := by decide +kernel
theorem dX9_laysMix_13 : decode cX9_laysMix 13 = .ok (.aload_n 0, 1) := by decide +kernel
theorem dX9_laysMix_14 : decode cX9_laysMix 14 = .ok (.getfield 7, 3) := by decide +kernel
theorem dX9_laysMix_17 : decode cX9_laysMix 17 = .ok (.bipush 23, 2) := by decide +kernel
theorem dX9_laysMix_19 : decode cX9_laysMix 19 = .ok (.iload_n 1, 1) := by decide +kernel
theorem dX9_laysMix_20 : decode cX9_laysMix 20 = .ok (.imul, 1) := by decide +kernel
theorem dX9_laysMix_21 : decode cX9_laysMix 21 = .ok (.iload_n 2, 1) := by decide +kernel
theorem dX9_laysMix_22 : decode cX9_laysMix 22 = .ok (.iadd, 1) := by decide +kernel
theorem dX9_laysMix_23 : decode cX9_laysMix 23 = .ok (.iaload, 1) := by decide +kernel
theorem dX9_laysMix_24 : decode cX9_laysMix 24 = .ok (.iastore, 1) := by decide +kernel
theorem dX9_laysMix_25 : decode cX9_laysMix 25 = .ok (.iinc 2 1, 3) := by decide +kernel
theorem dX9_laysMix_28 : decode cX9_laysMix 28 = .ok (.goto (-26), 3) := by decide +kernel
theorem dX9_laysMix_31 : decode cX9_laysMix 31 = .ok (.return_, 1) := by decide +kernel
set_option maxRecDepth 20000 in
theorem dX9_couldHave_0 : decode cX9_couldHave 0 = .ok (.aload_n 0, 1) := by decide +kernel
theorem dX9_couldHave_1 : decode cX9_couldHave 1 = .ok (.iload_n 1, 1) := by decide +kernel
theorem dX9_couldHave_2 : decode cX9_couldHave 2 = .ok (.invokevirtual 160, 3) := by decide +kernel
theorem dX9_couldHave_5 : decode cX9_couldHave 5 = .ok (.aload_n 0, 1) := by decide +kernel
theorem dX9_couldHave_6 : decode cX9_couldHave 6 = .ok (.getfield 28, 3) := by decide +kernel
theorem dX9_couldHave_9 : decode cX9_couldHave 9 = .ok (.iconst 0, 1) := by decide +kernel
theorem dX9_couldHave_10 : decode cX9_couldHave 10 = .ok (.iload_n 2, 1) := by decide +kernel
theorem dX9_couldHave_11 : decode cX9_couldHave 11 = .ok (.aload_n 0, 1) := by decide +kernel
theorem dX9_couldHave_12 : decode cX9_couldHave 12 = .ok (.getfield 28, 3) := by decide +kernel
theorem dX9_couldHave_15 : decode cX9_couldHave 15 = .ok (.iconst 1, 1) := by decide +kernel
theorem dX9_couldHave_16 : decode cX9_couldHave 16 = .ok (.iaload, 1) := by decide +kernel
theorem dX9_couldHave_17 : decode cX9_couldHave 17 = .ok (.invokestatic 107, 3) := by decide +kernel
theorem dX9_couldHave_20 : decode cX9_couldHave 20 = .ok (.invokestatic 110, 3) := by decide +kernel
theorem dX9_couldHave_23 : decode cX9_couldHave 23 = .ok (.iconst 1, 1) := by decide +kernel
theorem dX9_couldHave_24 : decode cX9_couldHave 24 = .ok (.istore_n 3, 1) := by decide +kernel
theorem dX9_couldHave_25 : decode cX9_couldHave 25 = .ok (.iconst 4, 1) := by decide +kernel
theorem dX9_couldHave_26 : decode cX9_couldHave 26 = .ok (.istore 4, 2) := by decide +kernel
theorem dX9_couldHave_28 : decode cX9_couldHave 28 = .ok (.iload 4, 2) := by decide +kernel
theorem dX9_couldHave_30 : decode cX9_couldHave 30 = .ok (.bipush 22, 2) := by decide +kernel
theorem dX9_couldHave_32 : decode cX9_couldHave 32 = .ok (.if_icmp .ge 41, 3) := by decide +kernel
theorem dX9_couldHave_35 : decode cX9_couldHave 35 = .ok (.iload_n 3, 1) := by decide +kernel
theorem dX9_couldHave_36 : decode cX9_couldHave 36 = .ok (.ifCond .eq 29, 3) := by decide +kernel
theorem dX9_couldHave_39 : decode cX9_couldHave 39 = .ok (.aload_n 0, 1) := by decide +kernel
theorem dX9_couldHave_40 : decode cX9_couldHave 40 = .ok (.getfield 28, 3) := by decide +kernel
theorem dX9_couldHave_43 : decode cX9_couldHave 43 = .ok (.iload 4, 2) := by decide +kernel
theorem dX9_couldHave_45 : decode cX9_couldHave 45 = .ok (.iaload, 1) := by decide +kernel
theorem dX9_couldHave_46 : decode cX9_couldHave 46 = .ok (.aload_n 0, 1) := by decide +kernel
theorem dX9_couldHave_47 : decode cX9_couldHave 47 = .ok (.getfield 7, 3) := by decide +kernel
theorem dX9_couldHave_50 : decode cX9_couldHave 50 = .ok (.bipush 23, 2) := by decide +kernel
theorem dX9_couldHave_52 : decode cX9_couldHave 52 = .ok (.iload_n 1, 1) := by decide +kernel
theorem dX9_couldHave_53 : decode cX9_couldHave 53 = .ok (.imul, 1) := by decide +kernel
theorem dX9_couldHave_54 : decode cX9_couldHave 54 = .ok (.iload 4, 2) := by decide +kernel
theorem dX9_couldHave_56 : decode cX9_couldHave 56 = .ok (.iadd, 1) := by decide +kernel
theorem dX9_couldHave_57 : decode cX9_couldHave 57 = .ok (.iaload, 1) := by decide +kernel
theorem dX9_couldHave_58 : decode cX9_couldHave 58 = .ok (.if_icmp .ne 7, 3) := by decide +kernel
theorem dX9_couldHave_61 : decode cX9_couldHave 61 = .ok (.iconst 1, 1) := by decide +kernel
theorem dX9_couldHave_62 : decode cX9_couldHave 62 = .ok (.goto 4, 3) := by decide +kernel
theorem dX9_couldHave_65 : decode cX9_couldHave 65 = .ok (.iconst 0, 1) := by decide +kernel
theorem dX9_couldHave_66 : decode cX9_couldHave 66 = .ok (.istore_n 3, 1) := by decide +kernel
theorem dX9_couldHave_67 : decode cX9_couldHave 67 = .ok (.iinc 4 1, 3) := by decide +kernel
theorem dX9_couldHave_70 : decode cX9_couldHave 70 = .ok (.goto (-42), 3) := by decide +kernel
theorem dX9_couldHave_73 : decode cX9_couldHave 73 = .ok (.iload_n 3, 1) := by decide +kernel
theorem dX9_couldHave_74 : decode cX9_couldHave 74 = .ok (.ireturn, 1) := by decide +kernel
set_option maxRecDepth 20000 in
theorem dX9_has_0 : decode cX9_has 0 = .ok (.aload_n 0, 1) := by decide +kernel
theorem dX9_has_1 : decode cX9_has 1 = .ok (.iload_n 1, 1) := by decide +kernel
theorem dX9_has_2 : decode cX9_has 2 = .ok (.invokevirtual 116, 3) := by decide +kernel
theorem dX9_has_5 : decode cX9_has 5 = .ok (.ifCond .eq 19, 3) := by decide +kernel
theorem dX9_has_8 : decode cX9_has 8 = .ok (.iload_n 2, 1) := by decide +kernel
theorem dX9_has_9 : decode cX9_has 9 = .ok (.invokestatic 120, 3) := by decide +kernel
theorem dX9_has_12 : decode cX9_has 12 = .ok (.ifCond .eq 12, 3) := by decide +kernel
theorem dX9_has_15 : decode cX9_has 15 = .ok (.iload_n 3, 1) := by decide +kernel
theorem dX9_has_16 : decode cX9_has 16 = .ok (.iconst 0, 1) := by decide +kernel
theorem dX9_has_17 : decode cX9_has 17 = .ok (.iconst 1, 1) := by decide +kernel
theorem dX9_has_18 : decode cX9_has 18 = .ok (.invokestatic 49, 3) := by decide +kernel
theorem dX9_has_21 : decode cX9_has 21 = .ok (.ifCond .ne 5, 3) := by decide +kernel
theorem dX9_has_24 : decode cX9_has 24 = .ok (.iconst (-1), 1) := by decide +kernel
theorem dX9_has_25 : decode cX9_has 25 = .ok (.ireturn, 1) := by decide +kernel
theorem dX9_has_26 : decode cX9_has 26 = .ok (.iload_n 3, 1) := by decide +kernel
theorem dX9_has_27 : decode cX9_has 27 = .ok (.ifCond .ne 30, 3) := by decide +kernel
theorem dX9_has_30 : decode cX9_has 30 = .ok (.aload_n 0, 1) := by decide +kernel
theorem dX9_has_31 : decode cX9_has 31 = .ok (.getfield 7, 3) := by decide +kernel
theorem dX9_has_34 : decode cX9_has 34 = .ok (.sipush 165, 3) := by decide +kernel
theorem dX9_has_37 : decode cX9_has 37 = .ok (.sipush 1000, 3) := by decide +kernel
theorem dX9_has_40 : decode cX9_has 40 = .ok (.iload_n 1, 1) := by decide +kernel
theorem dX9_has_41 : decode cX9_has 41 = .ok (.imul, 1) := by decide +kernel
theorem dX9_has_42 : decode cX9_has 42 = .ok (.iadd, 1) := by decide +kernel
theorem dX9_has_43 : decode cX9_has 43 = .ok (.iload_n 2, 1) := by decide +kernel
theorem dX9_has_44 : decode cX9_has 44 = .ok (.iadd, 1) := by decide +kernel
theorem dX9_has_45 : decode cX9_has 45 = .ok (.iaload, 1) := by decide +kernel
theorem dX9_has_46 : decode cX9_has 46 = .ok (.ifCond .le 7, 3) := by decide +kernel
theorem dX9_has_49 : decode cX9_has 49 = .ok (.iconst 1, 1) := by decide +kernel
theorem dX9_has_50 : decode cX9_has 50 = .ok (.goto 13, 3) := by decide +kernel
theorem dX9_has_53 : decode cX9_has 53 = .ok (.iconst 0, 1) := by decide +kernel
theorem dX9_has_54 : decode cX9_has 54 = .ok (.goto 9, 3) := by decide +kernel
theorem dX9_has_57 : decode cX9_has 57 = .ok (.aload_n 0, 1) := by decide +kernel
theorem dX9_has_58 : decode cX9_has 58 = .ok (.iload_n 1, 1) := by decide +kernel
theorem dX9_has_59 : decode cX9_has 59 = .ok (.iload_n 2, 1) := by decide +kernel
theorem dX9_has_60 : decode cX9_has 60 = .ok (.invokevirtual 163, 3) := by decide +kernel
theorem dX9_has_63 : decode cX9_has 63 = .ok (.istore 4, 2) := by decide +kernel
theorem dX9_has_65 : decode cX9_has 65 = .ok (.iload 4, 2) := by decide +kernel
theorem dX9_has_67 : decode cX9_has 67 = .ok (.ifCond .eq 7, 3) := by decide +kernel
theorem dX9_has_70 : decode cX9_has 70 = .ok (.iconst 1, 1) := by decide +kernel
theorem dX9_has_71 : decode cX9_has 71 = .ok (.goto 4, 3) := by decide +kernel
theorem dX9_has_74 : decode cX9_has 74 = .ok (.iconst 0, 1) := by decide +kernel
theorem dX9_has_75 : decode cX9_has 75 = .ok (.ireturn, 1) := by decide +kernel
set_option maxRecDepth 20000 in
theorem dX9_logAt_0 : decode cX9_logAt 0 = .ok (.iload_n 1, 1) := by decide +kernel
theorem dX9_logAt_1 : decode cX9_logAt 1 = .ok (.ifCond .lt 12, 3) := by decide +kernel
theorem dX9_logAt_4 : decode cX9_logAt 4 = .ok (.iload_n 2, 1) := by decide +kernel
theorem dX9_logAt_5 : decode cX9_logAt 5 = .ok (.iconst 0, 1) := by decide +kernel
theorem dX9_logAt_6 : decode cX9_logAt 6 = .ok (.iconst 2, 1) := by decide +kernel
theorem dX9_logAt_7 : decode cX9_logAt 7 = .ok (.invokestatic 49, 3) := by decide +kernel
theorem dX9_logAt_10 : decode cX9_logAt 10 = .ok (.ifCond .ne 5, 3) := by decide +kernel
theorem dX9_logAt_13 : decode cX9_logAt 13 = .ok (.iconst (-1), 1) := by decide +kernel
theorem dX9_logAt_14 : decode cX9_logAt 14 = .ok (.ireturn, 1) := by decide +kernel
theorem dX9_logAt_15 : decode cX9_logAt 15 = .ok (.iload_n 1, 1) := by decide +kernel
theorem dX9_logAt_16 : decode cX9_logAt 16 = .ok (.aload_n 0, 1) := by decide +kernel
theorem dX9_logAt_17 : decode cX9_logAt 17 = .ok (.getfield 7, 3) := by decide +kernel
theorem dX9_logAt_20 : decode cX9_logAt 20 = .ok (.sipush 140, 3) := by decide +kernel
theorem dX9_logAt_23 : decode cX9_logAt 23 = .ok (.iaload, 1) := by decide +kernel
theorem dX9_logAt_24 : decode cX9_logAt 24 = .ok (.if_icmp .ge 31, 3) := by decide +kernel
theorem dX9_logAt_27 : decode cX9_logAt 27 = .ok (.aload_n 0, 1) := by decide +kernel
theorem dX9_logAt_28 : decode cX9_logAt 28 = .ok (.getfield 7, 3) := by decide +kernel
theorem dX9_logAt_31 : decode cX9_logAt 31 = .ok (.sipush 141, 3) := by decide +kernel
theorem dX9_logAt_34 : decode cX9_logAt 34 = .ok (.iconst 3, 1) := by decide +kernel
theorem dX9_logAt_35 : decode cX9_logAt 35 = .ok (.aload_n 0, 1) := by decide +kernel
theorem dX9_logAt_36 : decode cX9_logAt 36 = .ok (.getfield 7, 3) := by decide +kernel
theorem dX9_logAt_39 : decode cX9_logAt 39 = .ok (.sipush 140, 3) := by decide +kernel
theorem dX9_logAt_42 : decode cX9_logAt 42 = .ok (.iaload, 1) := by decide +kernel
theorem dX9_logAt_43 : decode cX9_logAt 43 = .ok (.iconst 1, 1) := by decide +kernel
theorem dX9_logAt_44 : decode cX9_logAt 44 = .ok (.isub, 1) := by decide +kernel
theorem dX9_logAt_45 : decode cX9_logAt 45 = .ok (.iload_n 1, 1) := by decide +kernel
theorem dX9_logAt_46 : decode cX9_logAt 46 = .ok (.isub, 1) := by decide +kernel
theorem dX9_logAt_47 : decode cX9_logAt 47 = .ok (.imul, 1) := by decide +kernel
theorem dX9_logAt_48 : decode cX9_logAt 48 = .ok (.iadd, 1) := by decide +kernel
theorem dX9_logAt_49 : decode cX9_logAt 49 = .ok (.iload_n 2, 1) := by decide +kernel
theorem dX9_logAt_50 : decode cX9_logAt 50 = .ok (.iadd, 1) := by decide +kernel
theorem dX9_logAt_51 : decode cX9_logAt 51 = .ok (.iaload, 1) := by decide +kernel
theorem dX9_logAt_52 : decode cX9_logAt 52 = .ok (.goto 5, 3) := by decide +kernel
theorem dX9_logAt_55 : decode cX9_logAt 55 = .ok (.bipush (-4), 2) := by decide +kernel
theorem dX9_logAt_57 : decode cX9_logAt 57 = .ok (.ireturn, 1) := by decide +kernel
theorem dX9_seenBy_0 : decode cX9_seenBy 0 = .ok (.iconst 0, 1) := by decide +kernel
theorem dX9_seenBy_1 : decode cX9_seenBy 1 = .ok (.istore_n 2, 1) := by decide +kernel
theorem dX9_seenBy_2 : decode cX9_seenBy 2 = .ok (.iconst 0, 1) := by decide +kernel
theorem dX9_seenBy_3 : decode cX9_seenBy 3 = .ok (.istore_n 3, 1) := by decide +kernel
theorem dX9_seenBy_4 : decode cX9_seenBy 4 = .ok (.iload_n 3, 1) := by decide +kernel
theorem dX9_seenBy_5 : decode cX9_seenBy 5 = .ok (.sipush 1000, 3) := by decide +kernel
theorem dX9_seenBy_8 : decode cX9_seenBy 8 = .ok (.if_icmp .ge 94, 3) := by decide +kernel
theorem dX9_seenBy_11 : decode cX9_seenBy 11 = .ok (.iconst 0, 1) := by decide +kernel
theorem dX9_seenBy_12 : decode cX9_seenBy 12 = .ok (.istore 4, 2) := by decide +kernel
theorem dX9_seenBy_14 : decode cX9_seenBy 14 = .ok (.iconst 0, 1) := by decide +kernel
theorem dX9_seenBy_15 : decode cX9_seenBy 15 = .ok (.istore 5, 2) := by decide +kernel
theorem dX9_seenBy_17 : decode cX9_seenBy 17 = .ok (.iload 5, 2) := by decide +kernel
theorem dX9_seenBy_19 : decode cX9_seenBy 19 = .ok (.aload_n 0, 1) := by decide +kernel
theorem dX9_seenBy_20 : decode cX9_seenBy 20 = .ok (.getfield 7, 3) := by decide +kernel
theorem dX9_seenBy_23 : decode cX9_seenBy 23 = .ok (.sipush 138, 3) := by decide +kernel
theorem dX9_seenBy_26 : decode cX9_seenBy 26 = .ok (.iaload, 1) := by decide +kernel
theorem dX9_seenBy_27 : decode cX9_seenBy 27 = .ok (.if_icmp .ge 39, 3) := by decide +kernel
theorem dX9_seenBy_30 : decode cX9_seenBy 30 = .ok (.iload 4, 2) := by decide +kernel
theorem dX9_seenBy_32 : decode cX9_seenBy 32 = .ok (.aload_n 0, 1) := by decide +kernel
theorem dX9_seenBy_33 : decode cX9_seenBy 33 = .ok (.getfield 7, 3) := by decide +kernel
theorem dX9_seenBy_36 : decode cX9_seenBy 36 = .ok (.sipush 165, 3) := by decide +kernel
theorem dX9_seenBy_39 : decode cX9_seenBy 39 = .ok (.sipush 1000, 3) := by decide +kernel
theorem dX9_seenBy_42 : decode cX9_seenBy 42 = .ok (.iload 5, 2) := by decide +kernel
theorem dX9_seenBy_44 : decode cX9_seenBy 44 = .ok (.imul, 1) := by decide +kernel
theorem dX9_seenBy_45 : decode cX9_seenBy 45 = .ok (.iadd, 1) := by decide +kernel
theorem dX9_seenBy_46 : decode cX9_seenBy 46 = .ok (.iload_n 3, 1) := by decide +kernel
theorem dX9_seenBy_47 : decode cX9_seenBy 47 = .ok (.iadd, 1) := by decide +kernel
theorem dX9_seenBy_48 : decode cX9_seenBy 48 = .ok (.iaload, 1) := by decide +kernel
theorem dX9_seenBy_49 : decode cX9_seenBy 49 = .ok (.ifCond .le 7, 3) := by decide +kernel
theorem dX9_seenBy_52 : decode cX9_seenBy 52 = .ok (.iconst 1, 1) := by decide +kernel
theorem dX9_seenBy_53 : decode cX9_seenBy 53 = .ok (.goto 4, 3) := by decide +kernel
theorem dX9_seenBy_56 : decode cX9_seenBy 56 = .ok (.iconst 0, 1) := by decide +kernel
theorem dX9_seenBy_57 : decode cX9_seenBy 57 = .ok (.iadd, 1) := by decide +kernel
theorem dX9_seenBy_58 : decode cX9_seenBy 58 = .ok (.istore 4, 2) := by decide +kernel
theorem dX9_seenBy_60 : decode cX9_seenBy 60 = .ok (.iinc 5 1, 3) := by decide +kernel
theorem dX9_seenBy_63 : decode cX9_seenBy 63 = .ok (.goto (-46), 3) := by decide +kernel
theorem dX9_seenBy_66 : decode cX9_seenBy 66 = .ok (.iload_n 2, 1) := by decide +kernel
theorem dX9_seenBy_67 : decode cX9_seenBy 67 = .ok (.iload 4, 2) := by decide +kernel
theorem dX9_seenBy_69 : decode cX9_seenBy 69 = .ok (.ifCond .le 24, 3) := by decide +kernel
theorem dX9_seenBy_72 : decode cX9_seenBy 72 = .ok (.iload_n 1, 1) := by decide +kernel
theorem dX9_seenBy_73 : decode cX9_seenBy 73 = .ok (.ifCond .eq 16, 3) := by decide +kernel
theorem dX9_seenBy_76 : decode cX9_seenBy 76 = .ok (.iload 4, 2) := by decide +kernel
theorem dX9_seenBy_78 : decode cX9_seenBy 78 = .ok (.aload_n 0, 1) := by decide +kernel
theorem dX9_seenBy_79 : decode cX9_seenBy 79 = .ok (.getfield 7, 3) := by decide +kernel
theorem dX9_seenBy_82 : decode cX9_seenBy 82 = .ok (.sipush 138, 3) := by decide +kernel
theorem dX9_seenBy_85 : decode cX9_seenBy 85 = .ok (.iaload, 1) := by decide +kernel
theorem dX9_seenBy_86 : decode cX9_seenBy 86 = .ok (.if_icmp .ne 7, 3) := by decide +kernel
theorem dX9_seenBy_89 : decode cX9_seenBy 89 = .ok (.iconst 1, 1) := by decide +kernel
theorem dX9_seenBy_90 : decode cX9_seenBy 90 = .ok (.goto 4, 3) := by decide +kernel
theorem dX9_seenBy_93 : decode cX9_seenBy 93 = .ok (.iconst 0, 1) := by decide +kernel
theorem dX9_seenBy_94 : decode cX9_seenBy 94 = .ok (.iadd, 1) := by decide +kernel
theorem dX9_seenBy_95 : decode cX9_seenBy 95 = .ok (.istore_n 2, 1) := by decide +kernel
theorem dX9_seenBy_96 : decode cX9_seenBy 96 = .ok (.iinc 3 1, 3) := by decide +kernel
theorem dX9_seenBy_99 : decode cX9_seenBy 99 = .ok (.goto (-95), 3) := by decide +kernel
theorem dX9_seenBy_102 : decode cX9_seenBy 102 = .ok (.iload_n 2, 1) := by decide +kernel
theorem dX9_seenBy_103 : decode cX9_seenBy 103 = .ok (.ireturn, 1) := by decide +kernel
set_option maxRecDepth 20000 in
theorem dX9_rightOnes_0 : decode cX9_rightOnes 0 = .ok (.iconst 0, 1) := by decide +kernel
theorem dX9_rightOnes_1 : decode cX9_rightOnes 1 = .ok (.istore_n 1, 1) := by decide +kernel
theorem dX9_rightOnes_2 : decode cX9_rightOnes 2 = .ok (.iconst 0, 1) := by decide +kernel
theorem dX9_rightOnes_3 : decode cX9_rightOnes 3 = .ok (.istore_n 2, 1) := by decide +kernel
theorem dX9_rightOnes_4 : decode cX9_rightOnes 4 = .ok (.iload_n 2, 1) := by decide +kernel
theorem dX9_rightOnes_5 : decode cX9_rightOnes 5 = .ok (.aload_n 0, 1) := by decide +kernel
theorem dX9_rightOnes_6 : decode cX9_rightOnes 6 = .ok (.getfield 7, 3) := by decide +kernel
theorem dX9_rightOnes_9 : decode cX9_rightOnes 9 = .ok (.sipush 138, 3) := by decide +kernel
theorem dX9_rightOnes_12 : decode cX9_rightOnes 12 = .ok (.iaload, 1) := by decide +kernel
theorem dX9_rightOnes_13 : decode cX9_rightOnes 13 = .ok (.if_icmp .ge 25, 3) := by decide +kernel
theorem dX9_rightOnes_16 : decode cX9_rightOnes 16 = .ok (.iload_n 1, 1) := by decide +kernel
theorem dX9_rightOnes_17 : decode cX9_rightOnes 17 = .ok (.aload_n 0, 1) := by decide +kernel
theorem dX9_rightOnes_18 : decode cX9_rightOnes 18 = .ok (.iload_n 2, 1) := by decide +kernel
theorem dX9_rightOnes_19 : decode cX9_rightOnes 19 = .ok (.invokevirtual 157, 3) := by decide +kernel
theorem dX9_rightOnes_22 : decode cX9_rightOnes 22 = .ok (.ifCond .ne 7, 3) := by decide +kernel
theorem dX9_rightOnes_25 : decode cX9_rightOnes 25 = .ok (.iconst 1, 1) := by decide +kernel
theorem dX9_rightOnes_26 : decode cX9_rightOnes 26 = .ok (.goto 4, 3) := by decide +kernel
theorem dX9_rightOnes_29 : decode cX9_rightOnes 29 = .ok (.iconst 0, 1) := by decide +kernel
theorem dX9_rightOnes_30 : decode cX9_rightOnes 30 = .ok (.iadd, 1) := by decide +kernel
theorem dX9_rightOnes_31 : decode cX9_rightOnes 31 = .ok (.istore_n 1, 1) := by decide +kernel
theorem dX9_rightOnes_32 : decode cX9_rightOnes 32 = .ok (.iinc 2 1, 3) := by decide +kernel
theorem dX9_rightOnes_35 : decode cX9_rightOnes 35 = .ok (.goto (-31), 3) := by decide +kernel
theorem dX9_rightOnes_38 : decode cX9_rightOnes 38 = .ok (.iload_n 1, 1) := by decide +kernel
theorem dX9_rightOnes_39 : decode cX9_rightOnes 39 = .ok (.ireturn, 1) := by decide +kernel
set_option maxRecDepth 20000 in
theorem dX9_count_0 : decode cX9_count 0 = .ok (.iload_n 1, 1) := by decide +kernel
theorem dX9_count_1 : decode cX9_count 1 = .ok (.tableswitch 101 0 7 #[47, 56, 65, 71, 77, 86, 91, 96], 47) := by decide +kernel
theorem dX9_count_48 : decode cX9_count 48 = .ok (.aload_n 0, 1) := by decide +kernel
theorem dX9_count_49 : decode cX9_count 49 = .ok (.getfield 7, 3) := by decide +kernel
theorem dX9_count_52 : decode cX9_count 52 = .ok (.sipush 138, 3) := by decide +kernel
theorem dX9_count_55 : decode cX9_count 55 = .ok (.iaload, 1) := by decide +kernel
theorem dX9_count_56 : decode cX9_count 56 = .ok (.ireturn, 1) := by decide +kernel
theorem dX9_count_57 : decode cX9_count 57 = .ok (.aload_n 0, 1) := by decide +kernel
theorem dX9_count_58 : decode cX9_count 58 = .ok (.getfield 7, 3) := by decide +kernel
theorem dX9_count_61 : decode cX9_count 61 = .ok (.sipush 139, 3) := by decide +kernel
theorem dX9_count_64 : decode cX9_count 64 = .ok (.iaload, 1) := by decide +kernel
theorem dX9_count_65 : decode cX9_count 65 = .ok (.ireturn, 1) := by decide +kernel
theorem dX9_count_66 : decode cX9_count 66 = .ok (.aload_n 0, 1) := by decide +kernel
theorem dX9_count_67 : decode cX9_count 67 = .ok (.iconst 0, 1) := by decide +kernel
theorem dX9_count_68 : decode cX9_count 68 = .ok (.invokevirtual 166, 3) := by decide +kernel
theorem dX9_count_71 : decode cX9_count 71 = .ok (.ireturn, 1) := by decide +kernel
theorem dX9_count_72 : decode cX9_count 72 = .ok (.aload_n 0, 1) := by decide +kernel
theorem dX9_count_73 : decode cX9_count 73 = .ok (.iconst 1, 1) := by decide +kernel
theorem dX9_count_74 : decode cX9_count 74 = .ok (.invokevirtual 166, 3) := by decide +kernel
theorem dX9_count_77 : decode cX9_count 77 = .ok (.ireturn, 1) := by decide +kernel
theorem dX9_count_78 : decode cX9_count 78 = .ok (.aload_n 0, 1) := by decide +kernel
theorem dX9_count_79 : decode cX9_count 79 = .ok (.getfield 7, 3) := by decide +kernel
theorem dX9_count_82 : decode cX9_count 82 = .ok (.sipush 140, 3) := by decide +kernel
theorem dX9_count_85 : decode cX9_count 85 = .ok (.iaload, 1) := by decide +kernel
theorem dX9_count_86 : decode cX9_count 86 = .ok (.ireturn, 1) := by decide +kernel
theorem dX9_count_87 : decode cX9_count 87 = .ok (.aload_n 0, 1) := by decide +kernel
theorem dX9_count_88 : decode cX9_count 88 = .ok (.invokevirtual 170, 3) := by decide +kernel
theorem dX9_count_91 : decode cX9_count 91 = .ok (.ireturn, 1) := by decide +kernel
theorem dX9_count_92 : decode cX9_count 92 = .ok (.aload_n 0, 1) := by decide +kernel
theorem dX9_count_93 : decode cX9_count 93 = .ok (.getfield 38, 3) := by decide +kernel
theorem dX9_count_96 : decode cX9_count 96 = .ok (.ireturn, 1) := by decide +kernel
theorem dX9_count_97 : decode cX9_count 97 = .ok (.aload_n 0, 1) := by decide +kernel
theorem dX9_count_98 : decode cX9_count 98 = .ok (.getfield 174, 3) := by decide +kernel
theorem dX9_count_101 : decode cX9_count 101 = .ok (.ireturn, 1) := by decide +kernel
theorem dX9_count_102 : decode cX9_count 102 = .ok (.iconst (-1), 1) := by decide +kernel
theorem dX9_count_103 : decode cX9_count 103 = .ok (.ireturn, 1) := by decide +kernel
set_option maxRecDepth 20000 in
theorem dX9_errorBits_0 : decode cX9_errorBits 0 = .ok (.aload_n 0, 1) := by decide +kernel
theorem dX9_errorBits_1 : decode cX9_errorBits 1 = .ok (.iload_n 1, 1) := by decide +kernel
theorem dX9_errorBits_2 : decode cX9_errorBits 2 = .ok (.invokevirtual 116, 3) := by decide +kernel
theorem dX9_errorBits_5 : decode cX9_errorBits 5 = .ok (.ifCond .ne 5, 3) := by decide +kernel
theorem dX9_errorBits_8 : decode cX9_errorBits 8 = .ok (.iconst (-1), 1) := by decide +kernel
theorem dX9_errorBits_9 : decode cX9_errorBits 9 = .ok (.ireturn, 1) := by decide +kernel
theorem dX9_errorBits_10 : decode cX9_errorBits 10 = .ok (.aload_n 0, 1) := by decide +kernel
theorem dX9_errorBits_11 : decode cX9_errorBits 11 = .ok (.iload_n 1, 1) := by decide +kernel
theorem dX9_errorBits_12 : decode cX9_errorBits 12 = .ok (.invokevirtual 98, 3) := by decide +kernel
theorem dX9_errorBits_15 : decode cX9_errorBits 15 = .ok (.ifCond .ne 6, 3) := by decide +kernel
theorem dX9_errorBits_18 : decode cX9_errorBits 18 = .ok (.bipush (-4), 2) := by decide +kernel
theorem dX9_errorBits_20 : decode cX9_errorBits 20 = .ok (.ireturn, 1) := by decide +kernel
theorem dX9_errorBits_21 : decode cX9_errorBits 21 = .ok (.aload_n 0, 1) := by decide +kernel
theorem dX9_errorBits_22 : decode cX9_errorBits 22 = .ok (.iload_n 1, 1) := by decide +kernel
theorem dX9_errorBits_23 : decode cX9_errorBits 23 = .ok (.invokevirtual 157, 3) := by decide +kernel
theorem dX9_errorBits_26 : decode cX9_errorBits 26 = .ok (.i2f, 1) := by decide +kernel
theorem dX9_errorBits_27 : decode cX9_errorBits 27 = .ok (.fstore_n 2, 1) := by decide +kernel
theorem dX9_errorBits_28 : decode cX9_errorBits 28 = .ok (.aload_n 0, 1) := by decide +kernel
theorem dX9_errorBits_29 : decode cX9_errorBits 29 = .ok (.iload_n 1, 1) := by decide +kernel
theorem dX9_errorBits_30 : decode cX9_errorBits 30 = .ok (.invokevirtual 98, 3) := by decide +kernel
theorem dX9_errorBits_33 : decode cX9_errorBits 33 = .ok (.i2f, 1) := by decide +kernel
theorem dX9_errorBits_34 : decode cX9_errorBits 34 = .ok (.fstore_n 3, 1) := by decide +kernel
theorem dX9_errorBits_35 : decode cX9_errorBits 35 = .ok (.fload_n 2, 1) := by decide +kernel
theorem dX9_errorBits_36 : decode cX9_errorBits 36 = .ok (.fload_n 3, 1) := by decide +kernel
theorem dX9_errorBits_37 : decode cX9_errorBits 37 = .ok (.fdiv, 1) := by decide +kernel
theorem dX9_errorBits_38 : decode cX9_errorBits 38 = .ok (.invokestatic 177, 3) := by decide +kernel
theorem dX9_errorBits_41 : decode cX9_errorBits 41 = .ok (.ireturn, 1) := by decide +kernel
set_option maxRecDepth 20000 in
theorem dX9_amount_0 : decode cX9_amount 0 = .ok (.aload_n 0, 1) := by decide +kernel
theorem dX9_amount_1 : decode cX9_amount 1 = .ok (.iload_n 1, 1) := by decide +kernel
theorem dX9_amount_2 : decode cX9_amount 2 = .ok (.invokevirtual 157, 3) := by decide +kernel
theorem dX9_amount_5 : decode cX9_amount 5 = .ok (.istore_n 2, 1) := by decide +kernel
theorem dX9_amount_6 : decode cX9_amount 6 = .ok (.iload_n 2, 1) := by decide +kernel
theorem dX9_amount_7 : decode cX9_amount 7 = .ok (.ifCond .ge 8, 3) := by decide +kernel
theorem dX9_amount_10 : decode cX9_amount 10 = .ok (.iload_n 2, 1) := by decide +kernel
theorem dX9_amount_11 : decode cX9_amount 11 = .ok (.ineg, 1) := by decide +kernel
theorem dX9_amount_12 : decode cX9_amount 12 = .ok (.goto 4, 3) := by decide +kernel
theorem dX9_amount_15 : decode cX9_amount 15 = .ok (.iload_n 2, 1) := by decide +kernel
theorem dX9_amount_16 : decode cX9_amount 16 = .ok (.ireturn, 1) := by decide +kernel
set_option maxRecDepth 20000 in
theorem dX9_byError_0 : decode cX9_byError 0 = .ok (.iload_n 1, 1) := by decide +kernel
theorem dX9_byError_1 : decode cX9_byError 1 = .ok (.ifCond .ge 5, 3) := by decide +kernel
theorem dX9_byError_4 : decode cX9_byError 4 = .ok (.iconst (-1), 1) := by decide +kernel
theorem dX9_byError_5 : decode cX9_byError 5 = .ok (.ireturn, 1) := by decide +kernel
theorem dX9_byError_6 : decode cX9_byError 6 = .ok (.iconst 0, 1) := by decide +kernel
theorem dX9_byError_7 : decode cX9_byError 7 = .ok (.istore_n 2, 1) := by decide +kernel
theorem dX9_byError_8 : decode cX9_byError 8 = .ok (.iload_n 2, 1) := by decide +kernel
theorem dX9_byError_9 : decode cX9_byError 9 = .ok (.aload_n 0, 1) := by decide +kernel
theorem dX9_byError_10 : decode cX9_byError 10 = .ok (.getfield 7, 3) := by decide +kernel
theorem dX9_byError_13 : decode cX9_byError 13 = .ok (.sipush 138, 3) := by decide +kernel
theorem dX9_byError_16 : decode cX9_byError 16 = .ok (.iaload, 1) := by decide +kernel
theorem dX9_byError_17 : decode cX9_byError 17 = .ok (.if_icmp .ge 82, 3) := by decide +kernel
theorem dX9_byError_20 : decode cX9_byError 20 = .ok (.iconst 0, 1) := by decide +kernel
theorem dX9_byError_21 : decode cX9_byError 21 = .ok (.istore_n 3, 1) := by decide +kernel
theorem dX9_byError_22 : decode cX9_byError 22 = .ok (.iconst 0, 1) := by decide +kernel
theorem dX9_byError_23 : decode cX9_byError 23 = .ok (.istore 4, 2) := by decide +kernel
theorem dX9_byError_25 : decode cX9_byError 25 = .ok (.iload 4, 2) := by decide +kernel
theorem dX9_byError_27 : decode cX9_byError 27 = .ok (.aload_n 0, 1) := by decide +kernel
theorem dX9_byError_28 : decode cX9_byError 28 = .ok (.getfield 7, 3) := by decide +kernel
theorem dX9_byError_31 : decode cX9_byError 31 = .ok (.sipush 138, 3) := by decide +kernel
theorem dX9_byError_34 : decode cX9_byError 34 = .ok (.iaload, 1) := by decide +kernel
theorem dX9_byError_35 : decode cX9_byError 35 = .ok (.if_icmp .ge 51, 3) := by decide +kernel
theorem dX9_byError_38 : decode cX9_byError 38 = .ok (.iload_n 3, 1) := by decide +kernel
theorem dX9_byError_39 : decode cX9_byError 39 = .ok (.aload_n 0, 1) := by decide +kernel
theorem dX9_byError_40 : decode cX9_byError 40 = .ok (.iload 4, 2) := by decide +kernel
theorem dX9_byError_42 : decode cX9_byError 42 = .ok (.invokevirtual 183, 3) := by decide +kernel
theorem dX9_byError_45 : decode cX9_byError 45 = .ok (.aload_n 0, 1) := by decide +kernel
theorem dX9_byError_46 : decode cX9_byError 46 = .ok (.iload_n 2, 1) := by decide +kernel
theorem dX9_byError_47 : decode cX9_byError 47 = .ok (.invokevirtual 183, 3) := by decide +kernel
theorem dX9_byError_50 : decode cX9_byError 50 = .ok (.if_icmp .gt 23, 3) := by decide +kernel
theorem dX9_byError_53 : decode cX9_byError 53 = .ok (.aload_n 0, 1) := by decide +kernel
theorem dX9_byError_54 : decode cX9_byError 54 = .ok (.iload 4, 2) := by decide +kernel
theorem dX9_byError_56 : decode cX9_byError 56 = .ok (.invokevirtual 183, 3) := by decide +kernel
theorem dX9_byError_59 : decode cX9_byError 59 = .ok (.aload_n 0, 1) := by decide +kernel
theorem dX9_byError_60 : decode cX9_byError 60 = .ok (.iload_n 2, 1) := by decide +kernel
theorem dX9_byError_61 : decode cX9_byError 61 = .ok (.invokevirtual 183, 3) := by decide +kernel
theorem dX9_byError_64 : decode cX9_byError 64 = .ok (.if_icmp .ne 13, 3) := by decide +kernel
theorem dX9_byError_67 : decode cX9_byError 67 = .ok (.iload 4, 2) := by decide +kernel
theorem dX9_byError_69 : decode cX9_byError 69 = .ok (.iload_n 2, 1) := by decide +kernel
theorem dX9_byError_70 : decode cX9_byError 70 = .ok (.if_icmp .ge 7, 3) := by decide +kernel
theorem dX9_byError_73 : decode cX9_byError 73 = .ok (.iconst 1, 1) := by decide +kernel
theorem dX9_byError_74 : decode cX9_byError 74 = .ok (.goto 4, 3) := by decide +kernel
theorem dX9_byError_77 : decode cX9_byError 77 = .ok (.iconst 0, 1) := by decide +kernel
theorem dX9_byError_78 : decode cX9_byError 78 = .ok (.iadd, 1) := by decide +kernel
theorem dX9_byError_79 : decode cX9_byError 79 = .ok (.istore_n 3, 1) := by decide +kernel
theorem dX9_byError_80 : decode cX9_byError 80 = .ok (.iinc 4 1, 3) := by decide +kernel
theorem dX9_byError_83 : decode cX9_byError 83 = .ok (.goto (-58), 3) := by decide +kernel
theorem dX9_byError_86 : decode cX9_byError 86 = .ok (.iload_n 3, 1) := by decide +kernel
theorem dX9_byError_87 : decode cX9_byError 87 = .ok (.iload_n 1, 1) := by decide +kernel
theorem dX9_byError_88 : decode cX9_byError 88 = .ok (.if_icmp .ne 5, 3) := by decide +kernel
theorem dX9_byError_91 : decode cX9_byError 91 = .ok (.iload_n 2, 1) := by decide +kernel
theorem dX9_byError_92 : decode cX9_byError 92 = .ok (.ireturn, 1) := by decide +kernel
theorem dX9_byError_93 : decode cX9_byError 93 = .ok (.iinc 2 1, 3) := by decide +kernel
theorem dX9_byError_96 : decode cX9_byError 96 = .ok (.goto (-88), 3) := by decide +kernel
theorem dX9_byError_99 : decode cX9_byError 99 = .ok (.bipush (-4), 2) := by decide +kernel
theorem dX9_byError_101 : decode cX9_byError 101 = .ok (.ireturn, 1) := by decide +kernel
set_option maxRecDepth 20000 in
theorem dX9_would_0 : decode cX9_would 0 = .ok (.aload_n 0, 1) := by decide +kernel
theorem dX9_would_1 : decode cX9_would 1 = .ok (.iload_n 1, 1) := by decide +kernel
theorem dX9_would_2 : decode cX9_would 2 = .ok (.invokevirtual 116, 3) := by decide +kernel
theorem dX9_would_5 : decode cX9_would 5 = .ok (.ifCond .eq 10, 3) := by decide +kernel
theorem dX9_would_8 : decode cX9_would 8 = .ok (.iload_n 2, 1) := by decide +kernel
theorem dX9_would_9 : decode cX9_would 9 = .ok (.invokestatic 120, 3) := by decide +kernel
theorem dX9_would_12 : decode cX9_would 12 = .ok (.ifCond .ne 5, 3) := by decide +kernel
theorem dX9_would_15 : decode cX9_would 15 = .ok (.iconst (-1), 1) := by decide +kernel
theorem dX9_would_16 : decode cX9_would 16 = .ok (.ireturn, 1) := by decide +kernel
theorem dX9_would_17 : decode cX9_would 17 = .ok (.aload_n 0, 1) := by decide +kernel
theorem dX9_would_18 : decode cX9_would 18 = .ok (.iload_n 1, 1) := by decide +kernel
theorem dX9_would_19 : decode cX9_would 19 = .ok (.invokevirtual 160, 3) := by decide +kernel
theorem dX9_would_22 : decode cX9_would 22 = .ok (.aload_n 0, 1) := by decide +kernel
theorem dX9_would_23 : decode cX9_would 23 = .ok (.getfield 28, 3) := by decide +kernel
theorem dX9_would_26 : decode cX9_would 26 = .ok (.iconst 0, 1) := by decide +kernel
theorem dX9_would_27 : decode cX9_would 27 = .ok (.iload_n 2, 1) := by decide +kernel
theorem dX9_would_28 : decode cX9_would 28 = .ok (.aload_n 0, 1) := by decide +kernel
theorem dX9_would_29 : decode cX9_would 29 = .ok (.getfield 28, 3) := by decide +kernel
theorem dX9_would_32 : decode cX9_would 32 = .ok (.iconst 1, 1) := by decide +kernel
theorem dX9_would_33 : decode cX9_would 33 = .ok (.iaload, 1) := by decide +kernel
theorem dX9_would_34 : decode cX9_would 34 = .ok (.invokestatic 107, 3) := by decide +kernel
theorem dX9_would_37 : decode cX9_would 37 = .ok (.invokestatic 110, 3) := by decide +kernel
theorem dX9_would_40 : decode cX9_would 40 = .ok (.aload_n 0, 1) := by decide +kernel
theorem dX9_would_41 : decode cX9_would 41 = .ok (.getfield 28, 3) := by decide +kernel
theorem dX9_would_44 : decode cX9_would 44 = .ok (.iconst 2, 1) := by decide +kernel
theorem dX9_would_45 : decode cX9_would 45 = .ok (.aload_n 0, 1) := by decide +kernel
theorem dX9_would_46 : decode cX9_would 46 = .ok (.aload_n 0, 1) := by decide +kernel
theorem dX9_would_47 : decode cX9_would 47 = .ok (.getfield 28, 3) := by decide +kernel
theorem dX9_would_50 : decode cX9_would 50 = .ok (.iconst 2, 1) := by decide +kernel
theorem dX9_would_51 : decode cX9_would 51 = .ok (.iaload, 1) := by decide +kernel
theorem dX9_would_52 : decode cX9_would 52 = .ok (.iconst 1, 1) := by decide +kernel
theorem dX9_would_53 : decode cX9_would 53 = .ok (.invokevirtual 113, 3) := by decide +kernel
theorem dX9_would_56 : decode cX9_would 56 = .ok (.iastore, 1) := by decide +kernel
theorem dX9_would_57 : decode cX9_would 57 = .ok (.aload_n 0, 1) := by decide +kernel
theorem dX9_would_58 : decode cX9_would 58 = .ok (.getfield 28, 3) := by decide +kernel
theorem dX9_would_61 : decode cX9_would 61 = .ok (.iconst 0, 1) := by decide +kernel
theorem dX9_would_62 : decode cX9_would 62 = .ok (.invokestatic 92, 3) := by decide +kernel
theorem dX9_would_65 : decode cX9_would 65 = .ok (.ireturn, 1) := by decide +kernel
set_option maxRecDepth 20000 in
theorem dX9_raises_0 : decode cX9_raises 0 = .ok (.aload_n 0, 1) := by decide +kernel
theorem dX9_raises_1 : decode cX9_raises 1 = .ok (.iload_n 1, 1) := by decide +kernel
theorem dX9_raises_2 : decode cX9_raises 2 = .ok (.invokevirtual 116, 3) := by decide +kernel
theorem dX9_raises_5 : decode cX9_raises 5 = .ok (.ifCond .ne 5, 3) := by decide +kernel
theorem dX9_raises_8 : decode cX9_raises 8 = .ok (.iconst (-1), 1) := by decide +kernel
theorem dX9_raises_9 : decode cX9_raises 9 = .ok (.ireturn, 1) := by decide +kernel
theorem dX9_raises_10 : decode cX9_raises 10 = .ok (.iconst 0, 1) := by decide +kernel
theorem dX9_raises_11 : decode cX9_raises 11 = .ok (.istore_n 2, 1) := by decide +kernel
theorem dX9_raises_12 : decode cX9_raises 12 = .ok (.iload_n 2, 1) := by decide +kernel
theorem dX9_raises_13 : decode cX9_raises 13 = .ok (.sipush 1000, 3) := by decide +kernel
theorem dX9_raises_16 : decode cX9_raises 16 = .ok (.if_icmp .ge 20, 3) := by decide +kernel
theorem dX9_raises_19 : decode cX9_raises 19 = .ok (.aload_n 0, 1) := by decide +kernel
theorem dX9_raises_20 : decode cX9_raises 20 = .ok (.iload_n 1, 1) := by decide +kernel
theorem dX9_raises_21 : decode cX9_raises 21 = .ok (.iload_n 2, 1) := by decide +kernel
theorem dX9_raises_22 : decode cX9_raises 22 = .ok (.invokevirtual 163, 3) := by decide +kernel
theorem dX9_raises_25 : decode cX9_raises 25 = .ok (.ifCond .ne 5, 3) := by decide +kernel
theorem dX9_raises_28 : decode cX9_raises 28 = .ok (.iload_n 2, 1) := by decide +kernel
theorem dX9_raises_29 : decode cX9_raises 29 = .ok (.ireturn, 1) := by decide +kernel
theorem dX9_raises_30 : decode cX9_raises 30 = .ok (.iinc 2 1, 3) := by decide +kernel
theorem dX9_raises_33 : decode cX9_raises 33 = .ok (.goto (-21), 3) := by decide +kernel
theorem dX9_raises_36 : decode cX9_raises 36 = .ok (.bipush (-4), 2) := by decide +kernel
theorem dX9_raises_38 : decode cX9_raises 38 = .ok (.ireturn, 1) := by decide +kernel
set_option maxRecDepth 20000 in
theorem dX9_toldOfBoth_0 : decode cX9_toldOfBoth 0 = .ok (.aload_n 0, 1) := by decide +kernel
theorem dX9_toldOfBoth_1 : decode cX9_toldOfBoth 1 = .ok (.iload_n 1, 1) := by decide +kernel
theorem dX9_toldOfBoth_2 : decode cX9_toldOfBoth 2 = .ok (.invokevirtual 160, 3) := by decide +kernel
theorem dX9_toldOfBoth_5 : decode cX9_toldOfBoth 5 = .ok (.aload_n 0, 1) := by decide +kernel
theorem dX9_toldOfBoth_6 : decode cX9_toldOfBoth 6 = .ok (.getfield 28, 3) := by decide +kernel
theorem dX9_toldOfBoth_9 : decode cX9_toldOfBoth 9 = .ok (.iconst 0, 1) := by decide +kernel
theorem dX9_toldOfBoth_10 : decode cX9_toldOfBoth 10 = .ok (.aload_n 0, 1) := by decide +kernel
theorem dX9_toldOfBoth_11 : decode cX9_toldOfBoth 11 = .ok (.getfield 7, 3) := by decide +kernel
theorem dX9_toldOfBoth_14 : decode cX9_toldOfBoth 14 = .ok (.bipush 23, 2) := by decide +kernel
theorem dX9_toldOfBoth_16 : decode cX9_toldOfBoth 16 = .ok (.iload_n 2, 1) := by decide +kernel
theorem dX9_toldOfBoth_17 : decode cX9_toldOfBoth 17 = .ok (.imul, 1) := by decide +kernel
theorem dX9_toldOfBoth_18 : decode cX9_toldOfBoth 18 = .ok (.invokestatic 131, 3) := by decide +kernel
theorem dX9_toldOfBoth_21 : decode cX9_toldOfBoth 21 = .ok (.aload_n 0, 1) := by decide +kernel
theorem dX9_toldOfBoth_22 : decode cX9_toldOfBoth 22 = .ok (.getfield 28, 3) := by decide +kernel
theorem dX9_toldOfBoth_25 : decode cX9_toldOfBoth 25 = .ok (.iconst 2, 1) := by decide +kernel
theorem dX9_toldOfBoth_26 : decode cX9_toldOfBoth 26 = .ok (.aload_n 0, 1) := by decide +kernel
theorem dX9_toldOfBoth_27 : decode cX9_toldOfBoth 27 = .ok (.aload_n 0, 1) := by decide +kernel
theorem dX9_toldOfBoth_28 : decode cX9_toldOfBoth 28 = .ok (.getfield 28, 3) := by decide +kernel
theorem dX9_toldOfBoth_31 : decode cX9_toldOfBoth 31 = .ok (.iconst 2, 1) := by decide +kernel
theorem dX9_toldOfBoth_32 : decode cX9_toldOfBoth 32 = .ok (.iaload, 1) := by decide +kernel
theorem dX9_toldOfBoth_33 : decode cX9_toldOfBoth 33 = .ok (.aload_n 0, 1) := by decide +kernel
theorem dX9_toldOfBoth_34 : decode cX9_toldOfBoth 34 = .ok (.getfield 7, 3) := by decide +kernel
theorem dX9_toldOfBoth_37 : decode cX9_toldOfBoth 37 = .ok (.bipush 23, 2) := by decide +kernel
theorem dX9_toldOfBoth_39 : decode cX9_toldOfBoth 39 = .ok (.iload_n 2, 1) := by decide +kernel
theorem dX9_toldOfBoth_40 : decode cX9_toldOfBoth 40 = .ok (.imul, 1) := by decide +kernel
theorem dX9_toldOfBoth_41 : decode cX9_toldOfBoth 41 = .ok (.iconst 2, 1) := by decide +kernel
theorem dX9_toldOfBoth_42 : decode cX9_toldOfBoth 42 = .ok (.iadd, 1) := by decide +kernel
theorem dX9_toldOfBoth_43 : decode cX9_toldOfBoth 43 = .ok (.iaload, 1) := by decide +kernel
theorem dX9_toldOfBoth_44 : decode cX9_toldOfBoth 44 = .ok (.invokevirtual 113, 3) := by decide +kernel
theorem dX9_toldOfBoth_47 : decode cX9_toldOfBoth 47 = .ok (.iastore, 1) := by decide +kernel
theorem dX9_toldOfBoth_48 : decode cX9_toldOfBoth 48 = .ok (.aload_n 0, 1) := by decide +kernel
theorem dX9_toldOfBoth_49 : decode cX9_toldOfBoth 49 = .ok (.getfield 28, 3) := by decide +kernel
theorem dX9_toldOfBoth_52 : decode cX9_toldOfBoth 52 = .ok (.iconst 0, 1) := by decide +kernel
theorem dX9_toldOfBoth_53 : decode cX9_toldOfBoth 53 = .ok (.invokestatic 92, 3) := by decide +kernel
theorem dX9_toldOfBoth_56 : decode cX9_toldOfBoth 56 = .ok (.ireturn, 1) := by decide +kernel
theorem dX9_seenByBoth_0 : decode cX9_seenByBoth 0 = .ok (.iconst 0, 1) := by decide +kernel
theorem dX9_seenByBoth_1 : decode cX9_seenByBoth 1 = .ok (.istore 4, 2) := by decide +kernel
theorem dX9_seenByBoth_3 : decode cX9_seenByBoth 3 = .ok (.iconst 0, 1) := by decide +kernel
theorem dX9_seenByBoth_4 : decode cX9_seenByBoth 4 = .ok (.istore 5, 2) := by decide +kernel
theorem dX9_seenByBoth_6 : decode cX9_seenByBoth 6 = .ok (.iload 5, 2) := by decide +kernel
theorem dX9_seenByBoth_8 : decode cX9_seenByBoth 8 = .ok (.sipush 1000, 3) := by decide +kernel
theorem dX9_seenByBoth_11 : decode cX9_seenByBoth 11 = .ok (.if_icmp .ge 78, 3) := by decide +kernel
theorem dX9_seenByBoth_14 : decode cX9_seenByBoth 14 = .ok (.aload_n 0, 1) := by decide +kernel
theorem dX9_seenByBoth_15 : decode cX9_seenByBoth 15 = .ok (.getfield 7, 3) := by decide +kernel
theorem dX9_seenByBoth_18 : decode cX9_seenByBoth 18 = .ok (.sipush 165, 3) := by decide +kernel
theorem dX9_seenByBoth_21 : decode cX9_seenByBoth 21 = .ok (.sipush 1000, 3) := by decide +kernel
theorem dX9_seenByBoth_24 : decode cX9_seenByBoth 24 = .ok (.iload_n 1, 1) := by decide +kernel
theorem dX9_seenByBoth_25 : decode cX9_seenByBoth 25 = .ok (.imul, 1) := by decide +kernel
theorem dX9_seenByBoth_26 : decode cX9_seenByBoth 26 = .ok (.iadd, 1) := by decide +kernel
theorem dX9_seenByBoth_27 : decode cX9_seenByBoth 27 = .ok (.iload 5, 2) := by decide +kernel
theorem dX9_seenByBoth_29 : decode cX9_seenByBoth 29 = .ok (.iadd, 1) := by decide +kernel
theorem dX9_seenByBoth_30 : decode cX9_seenByBoth 30 = .ok (.iaload, 1) := by decide +kernel
theorem dX9_seenByBoth_31 : decode cX9_seenByBoth 31 = .ok (.ifCond .le 7, 3) := by decide +kernel
theorem dX9_seenByBoth_34 : decode cX9_seenByBoth 34 = .ok (.iconst 1, 1) := by decide +kernel
theorem dX9_seenByBoth_35 : decode cX9_seenByBoth 35 = .ok (.goto 4, 3) := by decide +kernel
theorem dX9_seenByBoth_38 : decode cX9_seenByBoth 38 = .ok (.iconst 0, 1) := by decide +kernel
theorem dX9_seenByBoth_39 : decode cX9_seenByBoth 39 = .ok (.aload_n 0, 1) := by decide +kernel
theorem dX9_seenByBoth_40 : decode cX9_seenByBoth 40 = .ok (.getfield 7, 3) := by decide +kernel
theorem dX9_seenByBoth_43 : decode cX9_seenByBoth 43 = .ok (.sipush 165, 3) := by decide +kernel
theorem dX9_seenByBoth_46 : decode cX9_seenByBoth 46 = .ok (.sipush 1000, 3) := by decide +kernel
theorem dX9_seenByBoth_49 : decode cX9_seenByBoth 49 = .ok (.iload_n 2, 1) := by decide +kernel
theorem dX9_seenByBoth_50 : decode cX9_seenByBoth 50 = .ok (.imul, 1) := by decide +kernel
theorem dX9_seenByBoth_51 : decode cX9_seenByBoth 51 = .ok (.iadd, 1) := by decide +kernel
theorem dX9_seenByBoth_52 : decode cX9_seenByBoth 52 = .ok (.iload 5, 2) := by decide +kernel
theorem dX9_seenByBoth_54 : decode cX9_seenByBoth 54 = .ok (.iadd, 1) := by decide +kernel
theorem dX9_seenByBoth_55 : decode cX9_seenByBoth 55 = .ok (.iaload, 1) := by decide +kernel
theorem dX9_seenByBoth_56 : decode cX9_seenByBoth 56 = .ok (.ifCond .le 7, 3) := by decide +kernel
theorem dX9_seenByBoth_59 : decode cX9_seenByBoth 59 = .ok (.iconst 1, 1) := by decide +kernel
theorem dX9_seenByBoth_60 : decode cX9_seenByBoth 60 = .ok (.goto 4, 3) := by decide +kernel
theorem dX9_seenByBoth_63 : decode cX9_seenByBoth 63 = .ok (.iconst 0, 1) := by decide +kernel
theorem dX9_seenByBoth_64 : decode cX9_seenByBoth 64 = .ok (.iadd, 1) := by decide +kernel
theorem dX9_seenByBoth_65 : decode cX9_seenByBoth 65 = .ok (.istore 6, 2) := by decide +kernel
theorem dX9_seenByBoth_67 : decode cX9_seenByBoth 67 = .ok (.iload 4, 2) := by decide +kernel
theorem dX9_seenByBoth_69 : decode cX9_seenByBoth 69 = .ok (.iload 6, 2) := by decide +kernel
theorem dX9_seenByBoth_71 : decode cX9_seenByBoth 71 = .ok (.iload_n 3, 1) := by decide +kernel
theorem dX9_seenByBoth_72 : decode cX9_seenByBoth 72 = .ok (.if_icmp .lt 7, 3) := by decide +kernel
theorem dX9_seenByBoth_75 : decode cX9_seenByBoth 75 = .ok (.iconst 1, 1) := by decide +kernel
theorem dX9_seenByBoth_76 : decode cX9_seenByBoth 76 = .ok (.goto 4, 3) := by decide +kernel
theorem dX9_seenByBoth_79 : decode cX9_seenByBoth 79 = .ok (.iconst 0, 1) := by decide +kernel
theorem dX9_seenByBoth_80 : decode cX9_seenByBoth 80 = .ok (.iadd, 1) := by decide +kernel
theorem dX9_seenByBoth_81 : decode cX9_seenByBoth 81 = .ok (.istore 4, 2) := by decide +kernel
theorem dX9_seenByBoth_83 : decode cX9_seenByBoth 83 = .ok (.iinc 5 1, 3) := by decide +kernel
theorem dX9_seenByBoth_86 : decode cX9_seenByBoth 86 = .ok (.goto (-80), 3) := by decide +kernel
theorem dX9_seenByBoth_89 : decode cX9_seenByBoth 89 = .ok (.iload 4, 2) := by decide +kernel
theorem dX9_seenByBoth_91 : decode cX9_seenByBoth 91 = .ok (.ireturn, 1) := by decide +kernel
set_option maxRecDepth 20000 in
theorem dX9_both_0 : decode cX9_both 0 = .ok (.aload_n 0, 1) := by decide +kernel
theorem dX9_both_1 : decode cX9_both 1 = .ok (.iload_n 1, 1) := by decide +kernel
theorem dX9_both_2 : decode cX9_both 2 = .ok (.invokevirtual 116, 3) := by decide +kernel
theorem dX9_both_5 : decode cX9_both 5 = .ok (.ifCond .eq 20, 3) := by decide +kernel
theorem dX9_both_8 : decode cX9_both 8 = .ok (.aload_n 0, 1) := by decide +kernel
theorem dX9_both_9 : decode cX9_both 9 = .ok (.iload_n 2, 1) := by decide +kernel
theorem dX9_both_10 : decode cX9_both 10 = .ok (.invokevirtual 116, 3) := by decide +kernel
theorem dX9_both_13 : decode cX9_both 13 = .ok (.ifCond .eq 12, 3) := by decide +kernel
theorem dX9_both_16 : decode cX9_both 16 = .ok (.iload_n 3, 1) := by decide +kernel
theorem dX9_both_17 : decode cX9_both 17 = .ok (.iconst 0, 1) := by decide +kernel
theorem dX9_both_18 : decode cX9_both 18 = .ok (.iconst 3, 1) := by decide +kernel
theorem dX9_both_19 : decode cX9_both 19 = .ok (.invokestatic 49, 3) := by decide +kernel
theorem dX9_both_22 : decode cX9_both 22 = .ok (.ifCond .ne 5, 3) := by decide +kernel
theorem dX9_both_25 : decode cX9_both 25 = .ok (.iconst (-1), 1) := by decide +kernel
theorem dX9_both_26 : decode cX9_both 26 = .ok (.ireturn, 1) := by decide +kernel
theorem dX9_both_27 : decode cX9_both 27 = .ok (.iload_n 3, 1) := by decide +kernel
theorem dX9_both_28 : decode cX9_both 28 = .ok (.iconst 2, 1) := by decide +kernel
theorem dX9_both_29 : decode cX9_both 29 = .ok (.irem, 1) := by decide +kernel
theorem dX9_both_30 : decode cX9_both 30 = .ok (.iconst 1, 1) := by decide +kernel
theorem dX9_both_31 : decode cX9_both 31 = .ok (.if_icmp .ne 20, 3) := by decide +kernel
theorem dX9_both_34 : decode cX9_both 34 = .ok (.aload_n 0, 1) := by decide +kernel
theorem dX9_both_35 : decode cX9_both 35 = .ok (.iload_n 1, 1) := by decide +kernel
theorem dX9_both_36 : decode cX9_both 36 = .ok (.iload_n 2, 1) := by decide +kernel
theorem dX9_both_37 : decode cX9_both 37 = .ok (.iload_n 3, 1) := by decide +kernel
theorem dX9_both_38 : decode cX9_both 38 = .ok (.iconst 1, 1) := by decide +kernel
theorem dX9_both_39 : decode cX9_both 39 = .ok (.if_icmp .ne 7, 3) := by decide +kernel
theorem dX9_both_42 : decode cX9_both 42 = .ok (.iconst 1, 1) := by decide +kernel
theorem dX9_both_43 : decode cX9_both 43 = .ok (.goto 4, 3) := by decide +kernel
theorem dX9_both_46 : decode cX9_both 46 = .ok (.iconst 2, 1) := by decide +kernel
theorem dX9_both_47 : decode cX9_both 47 = .ok (.invokevirtual 186, 3) := by decide +kernel
theorem dX9_both_50 : decode cX9_both 50 = .ok (.ireturn, 1) := by decide +kernel
theorem dX9_both_51 : decode cX9_both 51 = .ok (.aload_n 0, 1) := by decide +kernel
theorem dX9_both_52 : decode cX9_both 52 = .ok (.iload_n 1, 1) := by decide +kernel
theorem dX9_both_53 : decode cX9_both 53 = .ok (.iload_n 2, 1) := by decide +kernel
theorem dX9_both_54 : decode cX9_both 54 = .ok (.invokevirtual 127, 3) := by decide +kernel
theorem dX9_both_57 : decode cX9_both 57 = .ok (.ifCond .ne 6, 3) := by decide +kernel
theorem dX9_both_60 : decode cX9_both 60 = .ok (.bipush (-2), 2) := by decide +kernel
theorem dX9_both_62 : decode cX9_both 62 = .ok (.ireturn, 1) := by decide +kernel
theorem dX9_both_63 : decode cX9_both 63 = .ok (.aload_n 0, 1) := by decide +kernel
theorem dX9_both_64 : decode cX9_both 64 = .ok (.iload_n 1, 1) := by decide +kernel
theorem dX9_both_65 : decode cX9_both 65 = .ok (.iload_n 2, 1) := by decide +kernel
theorem dX9_both_66 : decode cX9_both 66 = .ok (.invokevirtual 190, 3) := by decide +kernel
theorem dX9_both_69 : decode cX9_both 69 = .ok (.istore 4, 2) := by decide +kernel
theorem dX9_both_71 : decode cX9_both 71 = .ok (.aload_n 0, 1) := by decide +kernel
theorem dX9_both_72 : decode cX9_both 72 = .ok (.iload_n 1, 1) := by decide +kernel
theorem dX9_both_73 : decode cX9_both 73 = .ok (.invokevirtual 95, 3) := by decide +kernel
theorem dX9_both_76 : decode cX9_both 76 = .ok (.aload_n 0, 1) := by decide +kernel
theorem dX9_both_77 : decode cX9_both 77 = .ok (.iload_n 2, 1) := by decide +kernel
theorem dX9_both_78 : decode cX9_both 78 = .ok (.invokevirtual 95, 3) := by decide +kernel
theorem dX9_both_81 : decode cX9_both 81 = .ok (.iadd, 1) := by decide +kernel
theorem dX9_both_82 : decode cX9_both 82 = .ok (.iload 4, 2) := by decide +kernel
theorem dX9_both_84 : decode cX9_both 84 = .ok (.isub, 1) := by decide +kernel
theorem dX9_both_85 : decode cX9_both 85 = .ok (.istore 5, 2) := by decide +kernel
theorem dX9_both_87 : decode cX9_both 87 = .ok (.iload_n 3, 1) := by decide +kernel
theorem dX9_both_88 : decode cX9_both 88 = .ok (.ifCond .ne 8, 3) := by decide +kernel
theorem dX9_both_91 : decode cX9_both 91 = .ok (.iload 4, 2) := by decide +kernel
theorem dX9_both_93 : decode cX9_both 93 = .ok (.goto 14, 3) := by decide +kernel
theorem dX9_both_96 : decode cX9_both 96 = .ok (.iload 5, 2) := by decide +kernel
theorem dX9_both_98 : decode cX9_both 98 = .ok (.ifCond .ge 7, 3) := by decide +kernel
theorem dX9_both_101 : decode cX9_both 101 = .ok (.iconst 0, 1) := by decide +kernel
theorem dX9_both_102 : decode cX9_both 102 = .ok (.goto 5, 3) := by decide +kernel
theorem dX9_both_105 : decode cX9_both 105 = .ok (.iload 5, 2) := by decide +kernel
theorem dX9_both_107 : decode cX9_both 107 = .ok (.ireturn, 1) := by decide +kernel
set_option maxRecDepth 20000 in
theorem dX9_undo_0 : decode cX9_undo 0 = .ok (.aload_n 0, 1) := by decide +kernel
theorem dX9_undo_1 : decode cX9_undo 1 = .ok (.getfield 38, 3) := by decide +kernel
theorem dX9_undo_4 : decode cX9_undo 4 = .ok (.ifCond .ne 6, 3) := by decide +kernel
theorem dX9_undo_7 : decode cX9_undo 7 = .ok (.bipush (-2), 2) := by decide +kernel
theorem dX9_undo_9 : decode cX9_undo 9 = .ok (.ireturn, 1) := by decide +kernel
theorem dX9_undo_10 : decode cX9_undo 10 = .ok (.aload_n 0, 1) := by decide +kernel
theorem dX9_undo_11 : decode cX9_undo 11 = .ok (.dup, 1) := by decide +kernel
theorem dX9_undo_12 : decode cX9_undo 12 = .ok (.getfield 38, 3) := by decide +kernel
theorem dX9_undo_15 : decode cX9_undo 15 = .ok (.iconst 1, 1) := by decide +kernel
theorem dX9_undo_16 : decode cX9_undo 16 = .ok (.isub, 1) := by decide +kernel
theorem dX9_undo_17 : decode cX9_undo 17 = .ok (.putfield 38, 3) := by decide +kernel
theorem dX9_undo_20 : decode cX9_undo 20 = .ok (.aload_n 0, 1) := by decide +kernel
theorem dX9_undo_21 : decode cX9_undo 21 = .ok (.aload_n 0, 1) := by decide +kernel
theorem dX9_undo_22 : decode cX9_undo 22 = .ok (.getfield 42, 3) := by decide +kernel
theorem dX9_undo_25 : decode cX9_undo 25 = .ok (.aload_n 0, 1) := by decide +kernel
theorem dX9_undo_26 : decode cX9_undo 26 = .ok (.getfield 38, 3) := by decide +kernel
theorem dX9_undo_29 : decode cX9_undo 29 = .ok (.iadd, 1) := by decide +kernel
theorem dX9_undo_30 : decode cX9_undo 30 = .ok (.iconst 4, 1) := by decide +kernel
theorem dX9_undo_31 : decode cX9_undo 31 = .ok (.irem, 1) := by decide +kernel
theorem dX9_undo_32 : decode cX9_undo 32 = .ok (.invokevirtual 193, 3) := by decide +kernel
theorem dX9_undo_35 : decode cX9_undo 35 = .ok (.aload_n 0, 1) := by decide +kernel
theorem dX9_undo_36 : decode cX9_undo 36 = .ok (.getfield 38, 3) := by decide +kernel
theorem dX9_undo_39 : decode cX9_undo 39 = .ok (.ireturn, 1) := by decide +kernel
set_option maxRecDepth 20000 in
theorem dX9_type_0 : decode cX9_type 0 = .ok (.iload_n 1, 1) := by decide +kernel
theorem dX9_type_1 : decode cX9_type 1 = .ok (.bipush 32, 2) := by decide +kernel
theorem dX9_type_3 : decode cX9_type 3 = .ok (.bipush 126, 2) := by decide +kernel
theorem dX9_type_5 : decode cX9_type 5 = .ok (.invokestatic 49, 3) := by decide +kernel
theorem dX9_type_8 : decode cX9_type 8 = .ok (.ifCond .ne 5, 3) := by decide +kernel
theorem dX9_type_11 : decode cX9_type 11 = .ok (.iconst (-1), 1) := by decide +kernel
theorem dX9_type_12 : decode cX9_type 12 = .ok (.ireturn, 1) := by decide +kernel
theorem dX9_type_13 : decode cX9_type 13 = .ok (.aload_n 0, 1) := by decide +kernel
theorem dX9_type_14 : decode cX9_type 14 = .ok (.getfield 174, 3) := by decide +kernel
theorem dX9_type_17 : decode cX9_type 17 = .ok (.bipush 80, 2) := by decide +kernel
theorem dX9_type_19 : decode cX9_type 19 = .ok (.if_icmp .ne 6, 3) := by decide +kernel
theorem dX9_type_22 : decode cX9_type 22 = .ok (.bipush (-3), 2) := by decide +kernel
theorem dX9_type_24 : decode cX9_type 24 = .ok (.ireturn, 1) := by decide +kernel
theorem dX9_type_25 : decode cX9_type 25 = .ok (.aload_n 0, 1) := by decide +kernel
theorem dX9_type_26 : decode cX9_type 26 = .ok (.getfield 31, 3) := by decide +kernel
theorem dX9_type_29 : decode cX9_type 29 = .ok (.aload_n 0, 1) := by decide +kernel
theorem dX9_type_30 : decode cX9_type 30 = .ok (.getfield 174, 3) := by decide +kernel
theorem dX9_type_33 : decode cX9_type 33 = .ok (.iload_n 1, 1) := by decide +kernel
theorem dX9_type_34 : decode cX9_type 34 = .ok (.iastore, 1) := by decide +kernel
theorem dX9_type_35 : decode cX9_type 35 = .ok (.aload_n 0, 1) := by decide +kernel
theorem dX9_type_36 : decode cX9_type 36 = .ok (.dup, 1) := by decide +kernel
theorem dX9_type_37 : decode cX9_type 37 = .ok (.getfield 174, 3) := by decide +kernel
theorem dX9_type_40 : decode cX9_type 40 = .ok (.iconst 1, 1) := by decide +kernel
theorem dX9_type_41 : decode cX9_type 41 = .ok (.iadd, 1) := by decide +kernel
theorem dX9_type_42 : decode cX9_type 42 = .ok (.putfield 174, 3) := by decide +kernel
theorem dX9_type_45 : decode cX9_type 45 = .ok (.aload_n 0, 1) := by decide +kernel
theorem dX9_type_46 : decode cX9_type 46 = .ok (.getfield 174, 3) := by decide +kernel
theorem dX9_type_49 : decode cX9_type 49 = .ok (.ireturn, 1) := by decide +kernel
theorem dX9_clearText_0 : decode cX9_clearText 0 = .ok (.aload_n 0, 1) := by decide +kernel
theorem dX9_clearText_1 : decode cX9_clearText 1 = .ok (.getfield 174, 3) := by decide +kernel
theorem dX9_clearText_4 : decode cX9_clearText 4 = .ok (.istore_n 1, 1) := by decide +kernel
theorem dX9_clearText_5 : decode cX9_clearText 5 = .ok (.aload_n 0, 1) := by decide +kernel
theorem dX9_clearText_6 : decode cX9_clearText 6 = .ok (.iconst 0, 1) := by decide +kernel
theorem dX9_clearText_7 : decode cX9_clearText 7 = .ok (.putfield 174, 3) := by decide +kernel
theorem dX9_clearText_10 : decode cX9_clearText 10 = .ok (.iload_n 1, 1) := by decide +kernel
theorem dX9_clearText_11 : decode cX9_clearText 11 = .ok (.ireturn, 1) := by decide +kernel
theorem dX9_here_0 : decode cX9_here 0 = .ok (.aload_n 0, 1) := by decide +kernel
theorem dX9_here_1 : decode cX9_here 1 = .ok (.getfield 196, 3) := by decide +kernel
theorem dX9_here_4 : decode cX9_here 4 = .ok (.aload_n 0, 1) := by decide +kernel
theorem dX9_here_5 : decode cX9_here 5 = .ok (.getfield 174, 3) := by decide +kernel
theorem dX9_here_8 : decode cX9_here 8 = .ok (.if_icmp .ge 15, 3) := by decide +kernel
theorem dX9_here_11 : decode cX9_here 11 = .ok (.aload_n 0, 1) := by decide +kernel
theorem dX9_here_12 : decode cX9_here 12 = .ok (.getfield 31, 3) := by decide +kernel
theorem dX9_here_15 : decode cX9_here 15 = .ok (.aload_n 0, 1) := by decide +kernel
theorem dX9_here_16 : decode cX9_here 16 = .ok (.getfield 196, 3) := by decide +kernel
theorem dX9_here_19 : decode cX9_here 19 = .ok (.iaload, 1) := by decide +kernel
theorem dX9_here_20 : decode cX9_here 20 = .ok (.goto 4, 3) := by decide +kernel
theorem dX9_here_23 : decode cX9_here 23 = .ok (.iconst (-1), 1) := by decide +kernel
theorem dX9_here_24 : decode cX9_here 24 = .ok (.ireturn, 1) := by decide +kernel
set_option maxRecDepth 20000 in
theorem dX9_must_0 : decode cX9_must 0 = .ok (.aload_n 0, 1) := by decide +kernel
theorem dX9_must_1 : decode cX9_must 1 = .ok (.aload_n 0, 1) := by decide +kernel
theorem dX9_must_2 : decode cX9_must 2 = .ok (.getfield 199, 3) := by decide +kernel
theorem dX9_must_5 : decode cX9_must 5 = .ok (.ifCond .eq 15, 3) := by decide +kernel
theorem dX9_must_8 : decode cX9_must 8 = .ok (.aload_n 0, 1) := by decide +kernel
theorem dX9_must_9 : decode cX9_must 9 = .ok (.invokevirtual 203, 3) := by decide +kernel
theorem dX9_must_12 : decode cX9_must 12 = .ok (.iload_n 1, 1) := by decide +kernel
theorem dX9_must_13 : decode cX9_must 13 = .ok (.if_icmp .ne 7, 3) := by decide +kernel
theorem dX9_must_16 : decode cX9_must 16 = .ok (.iconst 1, 1) := by decide +kernel
theorem dX9_must_17 : decode cX9_must 17 = .ok (.goto 4, 3) := by decide +kernel
theorem dX9_must_20 : decode cX9_must 20 = .ok (.iconst 0, 1) := by decide +kernel
theorem dX9_must_21 : decode cX9_must 21 = .ok (.putfield 199, 3) := by decide +kernel
theorem dX9_must_24 : decode cX9_must 24 = .ok (.aload_n 0, 1) := by decide +kernel
theorem dX9_must_25 : decode cX9_must 25 = .ok (.dup, 1) := by decide +kernel
theorem dX9_must_26 : decode cX9_must 26 = .ok (.getfield 196, 3) := by decide +kernel
theorem dX9_must_29 : decode cX9_must 29 = .ok (.iconst 1, 1) := by decide +kernel
theorem dX9_must_30 : decode cX9_must 30 = .ok (.iadd, 1) := by decide +kernel
theorem dX9_must_31 : decode cX9_must 31 = .ok (.putfield 196, 3) := by decide +kernel
theorem dX9_must_34 : decode cX9_must 34 = .ok (.return_, 1) := by decide +kernel
set_option maxRecDepth 20000 in
theorem dX9_number_0 : decode cX9_number 0 = .ok (.aload_n 0, 1) := by decide +kernel
theorem dX9_number_1 : decode cX9_number 1 = .ok (.iload_n 1, 1) := by decide +kernel
theorem dX9_number_2 : decode cX9_number 2 = .ok (.invokevirtual 206, 3) := by decide +kernel
theorem dX9_number_5 : decode cX9_number 5 = .ok (.iconst 0, 1) := by decide +kernel
theorem dX9_number_6 : decode cX9_number 6 = .ok (.istore_n 2, 1) := by decide +kernel
theorem dX9_number_7 : decode cX9_number 7 = .ok (.iconst 0, 1) := by decide +kernel
theorem dX9_number_8 : decode cX9_number 8 = .ok (.istore_n 3, 1) := by decide +kernel
theorem dX9_number_9 : decode cX9_number 9 = .ok (.iload_n 3, 1) := by decide +kernel
theorem dX9_number_10 : decode cX9_number 10 = .ok (.iconst 3, 1) := by decide +kernel
theorem dX9_number_11 : decode cX9_number 11 = .ok (.if_icmp .ge 46, 3) := by decide +kernel
theorem dX9_number_14 : decode cX9_number 14 = .ok (.aload_n 0, 1) := by decide +kernel
theorem dX9_number_15 : decode cX9_number 15 = .ok (.invokevirtual 203, 3) := by decide +kernel
theorem dX9_number_18 : decode cX9_number 18 = .ok (.bipush 48, 2) := by decide +kernel
theorem dX9_number_20 : decode cX9_number 20 = .ok (.bipush 57, 2) := by decide +kernel
theorem dX9_number_22 : decode cX9_number 22 = .ok (.invokestatic 49, 3) := by decide +kernel
theorem dX9_number_25 : decode cX9_number 25 = .ok (.ifCond .eq 32, 3) := by decide +kernel
theorem dX9_number_28 : decode cX9_number 28 = .ok (.bipush 10, 2) := by decide +kernel
theorem dX9_number_30 : decode cX9_number 30 = .ok (.iload_n 2, 1) := by decide +kernel
theorem dX9_number_31 : decode cX9_number 31 = .ok (.imul, 1) := by decide +kernel
theorem dX9_number_32 : decode cX9_number 32 = .ok (.aload_n 0, 1) := by decide +kernel
theorem dX9_number_33 : decode cX9_number 33 = .ok (.invokevirtual 203, 3) := by decide +kernel
theorem dX9_number_36 : decode cX9_number 36 = .ok (.iadd, 1) := by decide +kernel
theorem dX9_number_37 : decode cX9_number 37 = .ok (.bipush 48, 2) := by decide +kernel
theorem dX9_number_39 : decode cX9_number 39 = .ok (.isub, 1) := by decide +kernel
theorem dX9_number_40 : decode cX9_number 40 = .ok (.istore_n 2, 1) := by decide +kernel
theorem dX9_number_41 : decode cX9_number 41 = .ok (.iinc 3 1, 3) := by decide +kernel
theorem dX9_number_44 : decode cX9_number 44 = .ok (.aload_n 0, 1) := by decide +kernel
theorem dX9_number_45 : decode cX9_number 45 = .ok (.dup, 1) := by decide +kernel
theorem dX9_number_46 : decode cX9_number 46 = .ok (.getfield 196, 3) := by decide +kernel
theorem dX9_number_49 : decode cX9_number 49 = .ok (.iconst 1, 1) := by decide +kernel
theorem dX9_number_50 : decode cX9_number 50 = .ok (.iadd, 1) := by decide +kernel
theorem dX9_number_51 : decode cX9_number 51 = .ok (.putfield 196, 3) := by decide +kernel
theorem dX9_number_54 : decode cX9_number 54 = .ok (.goto (-45), 3) := by decide +kernel
theorem dX9_number_57 : decode cX9_number 57 = .ok (.aload_n 0, 1) := by decide +kernel
theorem dX9_number_58 : decode cX9_number 58 = .ok (.aload_n 0, 1) := by decide +kernel
theorem dX9_number_59 : decode cX9_number 59 = .ok (.getfield 199, 3) := by decide +kernel
theorem dX9_number_62 : decode cX9_number 62 = .ok (.ifCond .eq 11, 3) := by decide +kernel
theorem dX9_number_65 : decode cX9_number 65 = .ok (.iload_n 3, 1) := by decide +kernel
theorem dX9_number_66 : decode cX9_number 66 = .ok (.ifCond .le 7, 3) := by decide +kernel
theorem dX9_number_69 : decode cX9_number 69 = .ok (.iconst 1, 1) := by decide +kernel
theorem dX9_number_70 : decode cX9_number 70 = .ok (.goto 4, 3) := by decide +kernel
theorem dX9_number_73 : decode cX9_number 73 = .ok (.iconst 0, 1) := by decide +kernel
theorem dX9_number_74 : decode cX9_number 74 = .ok (.putfield 199, 3) := by decide +kernel
theorem dX9_number_77 : decode cX9_number 77 = .ok (.iload_n 2, 1) := by decide +kernel
theorem dX9_number_78 : decode cX9_number 78 = .ok (.ireturn, 1) := by decide +kernel
set_option maxRecDepth 20000 in
theorem dX9_command_0 : decode cX9_command 0 = .ok (.aload_n 0, 1) := by decide +kernel
theorem dX9_command_1 : decode cX9_command 1 = .ok (.invokevirtual 203, 3) := by decide +kernel
theorem dX9_command_4 : decode cX9_command 4 = .ok (.istore_n 1, 1) := by decide +kernel
theorem dX9_command_5 : decode cX9_command 5 = .ok (.aload_n 0, 1) := by decide +kernel
theorem dX9_command_6 : decode cX9_command 6 = .ok (.iload_n 1, 1) := by decide +kernel
theorem dX9_command_7 : decode cX9_command 7 = .ok (.bipush 107, 2) := by decide +kernel
theorem dX9_command_9 : decode cX9_command 9 = .ok (.if_icmp .eq 27, 3) := by decide +kernel
theorem dX9_command_12 : decode cX9_command 12 = .ok (.iload_n 1, 1) := by decide +kernel
theorem dX9_command_13 : decode cX9_command 13 = .ok (.bipush 97, 2) := by decide +kernel
theorem dX9_command_15 : decode cX9_command 15 = .ok (.if_icmp .eq 21, 3) := by decide +kernel
theorem dX9_command_18 : decode cX9_command 18 = .ok (.iload_n 1, 1) := by decide +kernel
theorem dX9_command_19 : decode cX9_command 19 = .ok (.bipush 115, 2) := by decide +kernel
theorem dX9_command_21 : decode cX9_command 21 = .ok (.if_icmp .eq 15, 3) := by decide +kernel
theorem dX9_command_24 : decode cX9_command 24 = .ok (.iload_n 1, 1) := by decide +kernel
theorem dX9_command_25 : decode cX9_command 25 = .ok (.bipush 109, 2) := by decide +kernel
theorem dX9_command_27 : decode cX9_command 27 = .ok (.if_icmp .eq 9, 3) := by decide +kernel
theorem dX9_command_30 : decode cX9_command 30 = .ok (.iload_n 1, 1) := by decide +kernel
theorem dX9_command_31 : decode cX9_command 31 = .ok (.bipush 122, 2) := by decide +kernel
theorem dX9_command_33 : decode cX9_command 33 = .ok (.if_icmp .ne 7, 3) := by decide +kernel
theorem dX9_command_36 : decode cX9_command 36 = .ok (.iconst 1, 1) := by decide +kernel
theorem dX9_command_37 : decode cX9_command 37 = .ok (.goto 4, 3) := by decide +kernel
theorem dX9_command_40 : decode cX9_command 40 = .ok (.iconst 0, 1) := by decide +kernel
theorem dX9_command_41 : decode cX9_command 41 = .ok (.putfield 199, 3) := by decide +kernel
theorem dX9_command_44 : decode cX9_command 44 = .ok (.aload_n 0, 1) := by decide +kernel
theorem dX9_command_45 : decode cX9_command 45 = .ok (.iload_n 1, 1) := by decide +kernel
theorem dX9_command_46 : decode cX9_command 46 = .ok (.invokevirtual 209, 3) := by decide +kernel
theorem dX9_command_49 : decode cX9_command 49 = .ok (.istore_n 2, 1) := by decide +kernel
theorem dX9_command_50 : decode cX9_command 50 = .ok (.iload_n 1, 1) := by decide +kernel
theorem dX9_command_51 : decode cX9_command 51 = .ok (.bipush 122, 2) := by decide +kernel
theorem dX9_command_53 : decode cX9_command 53 = .ok (.if_icmp .ne 7, 3) := by decide +kernel
theorem dX9_command_56 : decode cX9_command 56 = .ok (.iconst 0, 1) := by decide +kernel
theorem dX9_command_57 : decode cX9_command 57 = .ok (.goto 9, 3) := by decide +kernel
theorem dX9_command_60 : decode cX9_command 60 = .ok (.aload_n 0, 1) := by decide +kernel
theorem dX9_command_61 : decode cX9_command 61 = .ok (.bipush 44, 2) := by decide +kernel
theorem dX9_command_63 : decode cX9_command 63 = .ok (.invokevirtual 209, 3) := by decide +kernel
theorem dX9_command_66 : decode cX9_command 66 = .ok (.istore_n 3, 1) := by decide +kernel
theorem dX9_command_67 : decode cX9_command 67 = .ok (.iload_n 1, 1) := by decide +kernel
theorem dX9_command_68 : decode cX9_command 68 = .ok (.bipush 115, 2) := by decide +kernel
theorem dX9_command_70 : decode cX9_command 70 = .ok (.if_icmp .ne 12, 3) := by decide +kernel
theorem dX9_command_73 : decode cX9_command 73 = .ok (.aload_n 0, 1) := by decide +kernel
theorem dX9_command_74 : decode cX9_command 74 = .ok (.bipush 44, 2) := by decide +kernel
theorem dX9_command_76 : decode cX9_command 76 = .ok (.invokevirtual 209, 3) := by decide +kernel
theorem dX9_command_79 : decode cX9_command 79 = .ok (.goto 4, 3) := by decide +kernel
theorem dX9_command_82 : decode cX9_command 82 = .ok (.iconst 0, 1) := by decide +kernel
theorem dX9_command_83 : decode cX9_command 83 = .ok (.istore 4, 2) := by decide +kernel
theorem dX9_command_85 : decode cX9_command 85 = .ok (.iload_n 1, 1) := by decide +kernel
theorem dX9_command_86 : decode cX9_command 86 = .ok (.bipush 115, 2) := by decide +kernel
theorem dX9_command_88 : decode cX9_command 88 = .ok (.if_icmp .ne 12, 3) := by decide +kernel
theorem dX9_command_91 : decode cX9_command 91 = .ok (.aload_n 0, 1) := by decide +kernel
theorem dX9_command_92 : decode cX9_command 92 = .ok (.bipush 44, 2) := by decide +kernel
theorem dX9_command_94 : decode cX9_command 94 = .ok (.invokevirtual 209, 3) := by decide +kernel
theorem dX9_command_97 : decode cX9_command 97 = .ok (.goto 4, 3) := by decide +kernel
theorem dX9_command_100 : decode cX9_command 100 = .ok (.iconst 0, 1) := by decide +kernel
theorem dX9_command_101 : decode cX9_command 101 = .ok (.istore 5, 2) := by decide +kernel
theorem dX9_command_103 : decode cX9_command 103 = .ok (.aload_n 0, 1) := by decide +kernel
theorem dX9_command_104 : decode cX9_command 104 = .ok (.bipush 59, 2) := by decide +kernel
theorem dX9_command_106 : decode cX9_command 106 = .ok (.invokevirtual 206, 3) := by decide +kernel
theorem dX9_command_109 : decode cX9_command 109 = .ok (.aload_n 0, 1) := by decide +kernel
theorem dX9_command_110 : decode cX9_command 110 = .ok (.getfield 199, 3) := by decide +kernel
theorem dX9_command_113 : decode cX9_command 113 = .ok (.ifCond .ne 5, 3) := by decide +kernel
theorem dX9_command_116 : decode cX9_command 116 = .ok (.iconst 0, 1) := by decide +kernel
theorem dX9_command_117 : decode cX9_command 117 = .ok (.ireturn, 1) := by decide +kernel
theorem dX9_command_118 : decode cX9_command 118 = .ok (.iload_n 1, 1) := by decide +kernel
theorem dX9_command_119 : decode cX9_command 119 = .ok (.lookupswitch 75 #[(97, 48), (107, 41), (109, 68), (115, 57)], 41) := by decide +kernel
theorem dX9_command_160 : decode cX9_command 160 = .ok (.aload_n 0, 1) := by decide +kernel
theorem dX9_command_161 : decode cX9_command 161 = .ok (.iload_n 2, 1) := by decide +kernel
theorem dX9_command_162 : decode cX9_command 162 = .ok (.iload_n 3, 1) := by decide +kernel
theorem dX9_command_163 : decode cX9_command 163 = .ok (.invokevirtual 141, 3) := by decide +kernel
theorem dX9_command_166 : decode cX9_command 166 = .ok (.ireturn, 1) := by decide +kernel
theorem dX9_command_167 : decode cX9_command 167 = .ok (.aload_n 0, 1) := by decide +kernel
theorem dX9_command_168 : decode cX9_command 168 = .ok (.iload_n 2, 1) := by decide +kernel
theorem dX9_command_169 : decode cX9_command 169 = .ok (.iload_n 3, 1) := by decide +kernel
theorem dX9_command_170 : decode cX9_command 170 = .ok (.iconst 0, 1) := by decide +kernel
theorem dX9_command_171 : decode cX9_command 171 = .ok (.iconst 1, 1) := by decide +kernel
theorem dX9_command_172 : decode cX9_command 172 = .ok (.invokevirtual 147, 3) := by decide +kernel
theorem dX9_command_175 : decode cX9_command 175 = .ok (.ireturn, 1) := by decide +kernel
theorem dX9_command_176 : decode cX9_command 176 = .ok (.aload_n 0, 1) := by decide +kernel
theorem dX9_command_177 : decode cX9_command 177 = .ok (.iload_n 2, 1) := by decide +kernel
theorem dX9_command_178 : decode cX9_command 178 = .ok (.iload_n 3, 1) := by decide +kernel
theorem dX9_command_179 : decode cX9_command 179 = .ok (.iload 4, 2) := by decide +kernel
theorem dX9_command_181 : decode cX9_command 181 = .ok (.iload 5, 2) := by decide +kernel
theorem dX9_command_183 : decode cX9_command 183 = .ok (.invokevirtual 147, 3) := by decide +kernel
theorem dX9_command_186 : decode cX9_command 186 = .ok (.ireturn, 1) := by decide +kernel
theorem dX9_command_187 : decode cX9_command 187 = .ok (.aload_n 0, 1) := by decide +kernel
theorem dX9_command_188 : decode cX9_command 188 = .ok (.iload_n 2, 1) := by decide +kernel
theorem dX9_command_189 : decode cX9_command 189 = .ok (.iload_n 3, 1) := by decide +kernel
theorem dX9_command_190 : decode cX9_command 190 = .ok (.invokevirtual 151, 3) := by decide +kernel
theorem dX9_command_193 : decode cX9_command 193 = .ok (.ireturn, 1) := by decide +kernel
theorem dX9_command_194 : decode cX9_command 194 = .ok (.aload_n 0, 1) := by decide +kernel
theorem dX9_command_195 : decode cX9_command 195 = .ok (.iload_n 2, 1) := by decide +kernel
theorem dX9_command_196 : decode cX9_command 196 = .ok (.invokevirtual 154, 3) := by decide +kernel
theorem dX9_command_199 : decode cX9_command 199 = .ok (.ireturn, 1) := by decide +kernel
set_option maxRecDepth 20000 in
theorem dX9_does_0 : decode cX9_does 0 = .ok (.aload_n 0, 1) := by decide +kernel
theorem dX9_does_1 : decode cX9_does 1 = .ok (.iconst 0, 1) := by decide +kernel
theorem dX9_does_2 : decode cX9_does 2 = .ok (.putfield 196, 3) := by decide +kernel
theorem dX9_does_5 : decode cX9_does 5 = .ok (.iconst 0, 1) := by decide +kernel
theorem dX9_does_6 : decode cX9_does 6 = .ok (.istore_n 1, 1) := by decide +kernel
theorem dX9_does_7 : decode cX9_does 7 = .ok (.aload_n 0, 1) := by decide +kernel
theorem dX9_does_8 : decode cX9_does 8 = .ok (.getfield 196, 3) := by decide +kernel
theorem dX9_does_11 : decode cX9_does 11 = .ok (.aload_n 0, 1) := by decide +kernel
theorem dX9_does_12 : decode cX9_does 12 = .ok (.getfield 174, 3) := by decide +kernel
theorem dX9_does_15 : decode cX9_does 15 = .ok (.if_icmp .ge 57, 3) := by decide +kernel
theorem dX9_does_18 : decode cX9_does 18 = .ok (.aload_n 0, 1) := by decide +kernel
theorem dX9_does_19 : decode cX9_does 19 = .ok (.getfield 196, 3) := by decide +kernel
theorem dX9_does_22 : decode cX9_does 22 = .ok (.istore_n 2, 1) := by decide +kernel
theorem dX9_does_23 : decode cX9_does 23 = .ok (.aload_n 0, 1) := by decide +kernel
theorem dX9_does_24 : decode cX9_does 24 = .ok (.invokevirtual 212, 3) := by decide +kernel
theorem dX9_does_27 : decode cX9_does 27 = .ok (.istore_n 3, 1) := by decide +kernel
theorem dX9_does_28 : decode cX9_does 28 = .ok (.aload_n 0, 1) := by decide +kernel
theorem dX9_does_29 : decode cX9_does 29 = .ok (.aload_n 0, 1) := by decide +kernel
theorem dX9_does_30 : decode cX9_does 30 = .ok (.getfield 199, 3) := by decide +kernel
theorem dX9_does_33 : decode cX9_does 33 = .ok (.ifCond .ne 7, 3) := by decide +kernel
theorem dX9_does_36 : decode cX9_does 36 = .ok (.iconst 1, 1) := by decide +kernel
theorem dX9_does_37 : decode cX9_does 37 = .ok (.goto 12, 3) := by decide +kernel
theorem dX9_does_40 : decode cX9_does 40 = .ok (.iload_n 3, 1) := by decide +kernel
theorem dX9_does_41 : decode cX9_does 41 = .ok (.ifCond .ge 7, 3) := by decide +kernel
theorem dX9_does_44 : decode cX9_does 44 = .ok (.iconst 2, 1) := by decide +kernel
theorem dX9_does_45 : decode cX9_does 45 = .ok (.goto 4, 3) := by decide +kernel
theorem dX9_does_48 : decode cX9_does 48 = .ok (.iconst 0, 1) := by decide +kernel
theorem dX9_does_49 : decode cX9_does 49 = .ok (.putfield 215, 3) := by decide +kernel
theorem dX9_does_52 : decode cX9_does 52 = .ok (.aload_n 0, 1) := by decide +kernel
theorem dX9_does_53 : decode cX9_does 53 = .ok (.iload_n 3, 1) := by decide +kernel
theorem dX9_does_54 : decode cX9_does 54 = .ok (.putfield 218, 3) := by decide +kernel
theorem dX9_does_57 : decode cX9_does 57 = .ok (.aload_n 0, 1) := by decide +kernel
theorem dX9_does_58 : decode cX9_does 58 = .ok (.getfield 215, 3) := by decide +kernel
theorem dX9_does_61 : decode cX9_does 61 = .ok (.ifCond .le 5, 3) := by decide +kernel
theorem dX9_does_64 : decode cX9_does 64 = .ok (.iload_n 2, 1) := by decide +kernel
theorem dX9_does_65 : decode cX9_does 65 = .ok (.ireturn, 1) := by decide +kernel
theorem dX9_does_66 : decode cX9_does 66 = .ok (.iinc 1 1, 3) := by decide +kernel
theorem dX9_does_69 : decode cX9_does 69 = .ok (.goto (-62), 3) := by decide +kernel
theorem dX9_does_72 : decode cX9_does 72 = .ok (.iconst (-1), 1) := by decide +kernel
theorem dX9_does_73 : decode cX9_does 73 = .ok (.iload_n 1, 1) := by decide +kernel
theorem dX9_does_74 : decode cX9_does 74 = .ok (.isub, 1) := by decide +kernel
theorem dX9_does_75 : decode cX9_does 75 = .ok (.ireturn, 1) := by decide +kernel
set_option maxRecDepth 20000 in
theorem dX9_fault_0 : decode cX9_fault 0 = .ok (.iload_n 1, 1) := by decide +kernel
theorem dX9_fault_1 : decode cX9_fault 1 = .ok (.iconst 0, 1) := by decide +kernel
theorem dX9_fault_2 : decode cX9_fault 2 = .ok (.iconst 2, 1) := by decide +kernel
theorem dX9_fault_3 : decode cX9_fault 3 = .ok (.invokestatic 49, 3) := by decide +kernel
theorem dX9_fault_6 : decode cX9_fault 6 = .ok (.ifCond .ne 5, 3) := by decide +kernel
theorem dX9_fault_9 : decode cX9_fault 9 = .ok (.iconst (-1), 1) := by decide +kernel
theorem dX9_fault_10 : decode cX9_fault 10 = .ok (.ireturn, 1) := by decide +kernel
theorem dX9_fault_11 : decode cX9_fault 11 = .ok (.aload_n 0, 1) := by decide +kernel
theorem dX9_fault_12 : decode cX9_fault 12 = .ok (.getfield 7, 3) := by decide +kernel
theorem dX9_fault_15 : decode cX9_fault 15 = .ok (.aload_n 0, 1) := by decide +kernel
theorem dX9_fault_16 : decode cX9_fault 16 = .ok (.getfield 13, 3) := by decide +kernel
theorem dX9_fault_19 : decode cX9_fault 19 = .ok (.invokestatic 34, 3) := by decide +kernel
theorem dX9_fault_22 : decode cX9_fault 22 = .ok (.aload_n 0, 1) := by decide +kernel
theorem dX9_fault_23 : decode cX9_fault 23 = .ok (.invokevirtual 221, 3) := by decide +kernel
theorem dX9_fault_26 : decode cX9_fault 26 = .ok (.istore_n 2, 1) := by decide +kernel
theorem dX9_fault_27 : decode cX9_fault 27 = .ok (.aload_n 0, 1) := by decide +kernel
theorem dX9_fault_28 : decode cX9_fault 28 = .ok (.getfield 13, 3) := by decide +kernel
theorem dX9_fault_31 : decode cX9_fault 31 = .ok (.aload_n 0, 1) := by decide +kernel
theorem dX9_fault_32 : decode cX9_fault 32 = .ok (.getfield 7, 3) := by decide +kernel
theorem dX9_fault_35 : decode cX9_fault 35 = .ok (.invokestatic 34, 3) := by decide +kernel
theorem dX9_fault_38 : decode cX9_fault 38 = .ok (.iload_n 2, 1) := by decide +kernel
theorem dX9_fault_39 : decode cX9_fault 39 = .ok (.ifCond .lt 16, 3) := by decide +kernel
theorem dX9_fault_42 : decode cX9_fault 42 = .ok (.iload_n 1, 1) := by decide +kernel
theorem dX9_fault_43 : decode cX9_fault 43 = .ok (.iconst 2, 1) := by decide +kernel
theorem dX9_fault_44 : decode cX9_fault 44 = .ok (.if_icmp .ne 14, 3) := by decide +kernel
theorem dX9_fault_47 : decode cX9_fault 47 = .ok (.aload_n 0, 1) := by decide +kernel
theorem dX9_fault_48 : decode cX9_fault 48 = .ok (.getfield 215, 3) := by decide +kernel
theorem dX9_fault_51 : decode cX9_fault 51 = .ok (.iconst 1, 1) := by decide +kernel
theorem dX9_fault_52 : decode cX9_fault 52 = .ok (.if_icmp .ne 6, 3) := by decide +kernel
theorem dX9_fault_55 : decode cX9_fault 55 = .ok (.bipush (-4), 2) := by decide +kernel
theorem dX9_fault_57 : decode cX9_fault 57 = .ok (.ireturn, 1) := by decide +kernel
theorem dX9_fault_58 : decode cX9_fault 58 = .ok (.iload_n 1, 1) := by decide +kernel
theorem dX9_fault_59 : decode cX9_fault 59 = .ok (.ifCond .ne 7, 3) := by decide +kernel
theorem dX9_fault_62 : decode cX9_fault 62 = .ok (.iload_n 2, 1) := by decide +kernel
theorem dX9_fault_63 : decode cX9_fault 63 = .ok (.goto 19, 3) := by decide +kernel
theorem dX9_fault_66 : decode cX9_fault 66 = .ok (.iload_n 1, 1) := by decide +kernel
theorem dX9_fault_67 : decode cX9_fault 67 = .ok (.iconst 1, 1) := by decide +kernel
theorem dX9_fault_68 : decode cX9_fault 68 = .ok (.if_icmp .ne 10, 3) := by decide +kernel
theorem dX9_fault_71 : decode cX9_fault 71 = .ok (.aload_n 0, 1) := by decide +kernel
theorem dX9_fault_72 : decode cX9_fault 72 = .ok (.getfield 215, 3) := by decide +kernel
theorem dX9_fault_75 : decode cX9_fault 75 = .ok (.goto 7, 3) := by decide +kernel
theorem dX9_fault_78 : decode cX9_fault 78 = .ok (.aload_n 0, 1) := by decide +kernel
theorem dX9_fault_79 : decode cX9_fault 79 = .ok (.getfield 218, 3) := by decide +kernel
theorem dX9_fault_82 : decode cX9_fault 82 = .ok (.ireturn, 1) := by decide +kernel
set_option maxRecDepth 20000 in
theorem dX9_play_0 : decode cX9_play 0 = .ok (.aload_n 0, 1) := by decide +kernel
theorem dX9_play_1 : decode cX9_play 1 = .ok (.getfield 7, 3) := by decide +kernel
theorem dX9_play_4 : decode cX9_play 4 = .ok (.aload_n 0, 1) := by decide +kernel
theorem dX9_play_5 : decode cX9_play 5 = .ok (.getfield 13, 3) := by decide +kernel
theorem dX9_play_8 : decode cX9_play 8 = .ok (.invokestatic 34, 3) := by decide +kernel
theorem dX9_play_11 : decode cX9_play 11 = .ok (.aload_n 0, 1) := by decide +kernel
theorem dX9_play_12 : decode cX9_play 12 = .ok (.invokevirtual 221, 3) := by decide +kernel
theorem dX9_play_15 : decode cX9_play 15 = .ok (.istore_n 1, 1) := by decide +kernel
theorem dX9_play_16 : decode cX9_play 16 = .ok (.aload_n 0, 1) := by decide +kernel
theorem dX9_play_17 : decode cX9_play 17 = .ok (.iload_n 1, 1) := by decide +kernel
theorem dX9_play_18 : decode cX9_play 18 = .ok (.ifCond .ge 9, 3) := by decide +kernel
theorem dX9_play_21 : decode cX9_play 21 = .ok (.iconst (-1), 1) := by decide +kernel
theorem dX9_play_22 : decode cX9_play 22 = .ok (.iload_n 1, 1) := by decide +kernel
theorem dX9_play_23 : decode cX9_play 23 = .ok (.isub, 1) := by decide +kernel
theorem dX9_play_24 : decode cX9_play 24 = .ok (.goto 5, 3) := by decide +kernel
theorem dX9_play_27 : decode cX9_play 27 = .ok (.bipush (-2), 2) := by decide +kernel
theorem dX9_play_29 : decode cX9_play 29 = .ok (.invokevirtual 144, 3) := by decide +kernel
theorem dX9_play_32 : decode cX9_play 32 = .ok (.ireturn, 1) := by decide +kernel
