theorem d_Model_matches_0 : decode b_Model_matches 0 = .ok (.aload_n 0, 1) := by decide +kernel
theorem d_Model_matches_1 : decode b_Model_matches 1 = .ok (.getfield 79, 3) := by decide +kernel
theorem d_Model_matches_4 : decode b_Model_matches 4 = .ok (.iconst 0, 1) := by decide +kernel
theorem d_Model_matches_5 : decode b_Model_matches 5 = .ok (.baload, 1) := by decide +kernel
theorem d_Model_matches_6 : decode b_Model_matches 6 = .ok (.ifCond .eq 48, 3) := by decide +kernel
theorem d_Model_matches_9 : decode b_Model_matches 9 = .ok (.aload_n 0, 1) := by decide +kernel
theorem d_Model_matches_10 : decode b_Model_matches 10 = .ok (.getfield 79, 3) := by decide +kernel
theorem d_Model_matches_13 : decode b_Model_matches 13 = .ok (.iconst 1, 1) := by decide +kernel
theorem d_Model_matches_14 : decode b_Model_matches 14 = .ok (.baload, 1) := by decide +kernel
theorem d_Model_matches_15 : decode b_Model_matches 15 = .ok (.ifCond .eq 39, 3) := by decide +kernel
theorem d_Model_matches_18 : decode b_Model_matches 18 = .ok (.aload_n 0, 1) := by decide +kernel
theorem d_Model_matches_19 : decode b_Model_matches 19 = .ok (.getfield 20, 3) := by decide +kernel
theorem d_Model_matches_22 : decode b_Model_matches 22 = .ok (.iconst 1, 1) := by decide +kernel
theorem d_Model_matches_23 : decode b_Model_matches 23 = .ok (.iaload, 1) := by decide +kernel
theorem d_Model_matches_24 : decode b_Model_matches 24 = .ok (.aload_n 0, 1) := by decide +kernel
theorem d_Model_matches_25 : decode b_Model_matches 25 = .ok (.getfield 20, 3) := by decide +kernel
theorem d_Model_matches_28 : decode b_Model_matches 28 = .ok (.bipush 6, 2) := by decide +kernel
theorem d_Model_matches_30 : decode b_Model_matches 30 = .ok (.iaload, 1) := by decide +kernel
theorem d_Model_matches_31 : decode b_Model_matches 31 = .ok (.if_icmp .ne 23, 3) := by decide +kernel
theorem d_Model_matches_34 : decode b_Model_matches 34 = .ok (.aload_n 0, 1) := by decide +kernel
theorem d_Model_matches_35 : decode b_Model_matches 35 = .ok (.getfield 20, 3) := by decide +kernel
theorem d_Model_matches_38 : decode b_Model_matches 38 = .ok (.iconst 3, 1) := by decide +kernel
theorem d_Model_matches_39 : decode b_Model_matches 39 = .ok (.iaload, 1) := by decide +kernel
theorem d_Model_matches_40 : decode b_Model_matches 40 = .ok (.aload_n 0, 1) := by decide +kernel
theorem d_Model_matches_41 : decode b_Model_matches 41 = .ok (.getfield 20, 3) := by decide +kernel
theorem d_Model_matches_44 : decode b_Model_matches 44 = .ok (.bipush 8, 2) := by decide +kernel
theorem d_Model_matches_46 : decode b_Model_matches 46 = .ok (.iaload, 1) := by decide +kernel
theorem d_Model_matches_47 : decode b_Model_matches 47 = .ok (.if_icmp .ne 7, 3) := by decide +kernel
theorem d_Model_matches_50 : decode b_Model_matches 50 = .ok (.iconst 1, 1) := by decide +kernel
theorem d_Model_matches_51 : decode b_Model_matches 51 = .ok (.goto 4, 3) := by decide +kernel
theorem d_Model_matches_54 : decode b_Model_matches 54 = .ok (.iconst 0, 1) := by decide +kernel
theorem d_Model_matches_55 : decode b_Model_matches 55 = .ok (.ireturn, 1) := by decide +kernel
theorem d_Model_stateOf_0 : decode b_Model_stateOf 0 = .ok (.iload_n 1, 1) := by decide +kernel
theorem d_Model_stateOf_1 : decode b_Model_stateOf 1 = .ok (.ifCond .ne 18, 3) := by decide +kernel
theorem d_Model_stateOf_4 : decode b_Model_stateOf 4 = .ok (.iload_n 2, 1) := by decide +kernel
theorem d_Model_stateOf_5 : decode b_Model_stateOf 5 = .ok (.iconst 1, 1) := by decide +kernel
theorem d_Model_stateOf_6 : decode b_Model_stateOf 6 = .ok (.aload_n 0, 1) := by decide +kernel
theorem d_Model_stateOf_7 : decode b_Model_stateOf 7 = .ok (.getfield 20, 3) := by decide +kernel
theorem d_Model_stateOf_10 : decode b_Model_stateOf 10 = .ok (.iconst 2, 1) := by decide +kernel
theorem d_Model_stateOf_11 : decode b_Model_stateOf 11 = .ok (.iaload, 1) := by decide +kernel
theorem d_Model_stateOf_12 : decode b_Model_stateOf 12 = .ok (.ishl, 1) := by decide +kernel
theorem d_Model_stateOf_13 : decode b_Model_stateOf 13 = .ok (.iconst 1, 1) := by decide +kernel
theorem d_Model_stateOf_14 : decode b_Model_stateOf 14 = .ok (.isub, 1) := by decide +kernel
theorem d_Model_stateOf_15 : decode b_Model_stateOf 15 = .ok (.iand, 1) := by decide +kernel
theorem d_Model_stateOf_16 : decode b_Model_stateOf 16 = .ok (.goto 11, 3) := by decide +kernel
theorem d_Model_stateOf_19 : decode b_Model_stateOf 19 = .ok (.iload_n 2, 1) := by decide +kernel
theorem d_Model_stateOf_20 : decode b_Model_stateOf 20 = .ok (.aload_n 0, 1) := by decide +kernel
theorem d_Model_stateOf_21 : decode b_Model_stateOf 21 = .ok (.getfield 20, 3) := by decide +kernel
theorem d_Model_stateOf_24 : decode b_Model_stateOf 24 = .ok (.iconst 2, 1) := by decide +kernel
theorem d_Model_stateOf_25 : decode b_Model_stateOf 25 = .ok (.iaload, 1) := by decide +kernel
theorem d_Model_stateOf_26 : decode b_Model_stateOf 26 = .ok (.ishr, 1) := by decide +kernel
theorem d_Model_stateOf_27 : decode b_Model_stateOf 27 = .ok (.ireturn, 1) := by decide +kernel
theorem d_Model_reckonBoth_0 : decode b_Model_reckonBoth 0 = .ok (.aload_n 0, 1) := by decide +kernel
theorem d_Model_reckonBoth_1 : decode b_Model_reckonBoth 1 = .ok (.iconst 0, 1) := by decide +kernel
theorem d_Model_reckonBoth_2 : decode b_Model_reckonBoth 2 = .ok (.aload_n 0, 1) := by decide +kernel
theorem d_Model_reckonBoth_3 : decode b_Model_reckonBoth 3 = .ok (.iconst 0, 1) := by decide +kernel
theorem d_Model_reckonBoth_4 : decode b_Model_reckonBoth 4 = .ok (.iload_n 1, 1) := by decide +kernel
theorem d_Model_reckonBoth_5 : decode b_Model_reckonBoth 5 = .ok (.invokevirtual 267, 3) := by decide +kernel
theorem d_Model_reckonBoth_8 : decode b_Model_reckonBoth 8 = .ok (.invokevirtual 261, 3) := by decide +kernel
theorem d_Model_reckonBoth_11 : decode b_Model_reckonBoth 11 = .ok (.aload_n 0, 1) := by decide +kernel
theorem d_Model_reckonBoth_12 : decode b_Model_reckonBoth 12 = .ok (.iconst 1, 1) := by decide +kernel
theorem d_Model_reckonBoth_13 : decode b_Model_reckonBoth 13 = .ok (.aload_n 0, 1) := by decide +kernel
theorem d_Model_reckonBoth_14 : decode b_Model_reckonBoth 14 = .ok (.iconst 1, 1) := by decide +kernel
theorem d_Model_reckonBoth_15 : decode b_Model_reckonBoth 15 = .ok (.iload_n 1, 1) := by decide +kernel
theorem d_Model_reckonBoth_16 : decode b_Model_reckonBoth 16 = .ok (.invokevirtual 267, 3) := by decide +kernel
theorem d_Model_reckonBoth_19 : decode b_Model_reckonBoth 19 = .ok (.invokevirtual 261, 3) := by decide +kernel
theorem d_Model_reckonBoth_22 : decode b_Model_reckonBoth 22 = .ok (.return_, 1) := by decide +kernel
theorem d_Model_mask_0 : decode b_Model_mask 0 = .ok (.aload_n 0, 1) := by decide +kernel
theorem d_Model_mask_1 : decode b_Model_mask 1 = .ok (.getfield 274, 3) := by decide +kernel
theorem d_Model_mask_4 : decode b_Model_mask 4 = .ok (.bipush 64, 2) := by decide +kernel
theorem d_Model_mask_6 : decode b_Model_mask 6 = .ok (.if_icmp .ne 9, 3) := by decide +kernel
theorem d_Model_mask_9 : decode b_Model_mask 9 = .ok (.ldc2_w 247, 3) := by decide +kernel
theorem d_Model_mask_12 : decode b_Model_mask 12 = .ok (.goto 11, 3) := by decide +kernel
theorem d_Model_mask_15 : decode b_Model_mask 15 = .ok (.lconst 1, 1) := by decide +kernel
theorem d_Model_mask_16 : decode b_Model_mask 16 = .ok (.aload_n 0, 1) := by decide +kernel
theorem d_Model_mask_17 : decode b_Model_mask 17 = .ok (.getfield 274, 3) := by decide +kernel
theorem d_Model_mask_20 : decode b_Model_mask 20 = .ok (.lshl, 1) := by decide +kernel
theorem d_Model_mask_21 : decode b_Model_mask 21 = .ok (.lconst 1, 1) := by decide +kernel
theorem d_Model_mask_22 : decode b_Model_mask 22 = .ok (.lsub, 1) := by decide +kernel
theorem d_Model_mask_23 : decode b_Model_mask 23 = .ok (.lreturn, 1) := by decide +kernel
theorem d_Model_tellsBy_0 : decode b_Model_tellsBy 0 = .ok (.aload_n 0, 1) := by decide +kernel
theorem d_Model_tellsBy_1 : decode b_Model_tellsBy 1 = .ok (.iconst 0, 1) := by decide +kernel
theorem d_Model_tellsBy_2 : decode b_Model_tellsBy 2 = .ok (.aload_n 0, 1) := by decide +kernel
theorem d_Model_tellsBy_3 : decode b_Model_tellsBy 3 = .ok (.getfield 33, 3) := by decide +kernel
theorem d_Model_tellsBy_6 : decode b_Model_tellsBy 6 = .ok (.iload_n 1, 1) := by decide +kernel
theorem d_Model_tellsBy_7 : decode b_Model_tellsBy 7 = .ok (.iaload, 1) := by decide +kernel
theorem d_Model_tellsBy_8 : decode b_Model_tellsBy 8 = .ok (.invokevirtual 253, 3) := by decide +kernel
theorem d_Model_tellsBy_11 : decode b_Model_tellsBy 11 = .ok (.aload_n 0, 1) := by decide +kernel
theorem d_Model_tellsBy_12 : decode b_Model_tellsBy 12 = .ok (.iconst 1, 1) := by decide +kernel
theorem d_Model_tellsBy_13 : decode b_Model_tellsBy 13 = .ok (.aload_n 0, 1) := by decide +kernel
theorem d_Model_tellsBy_14 : decode b_Model_tellsBy 14 = .ok (.getfield 33, 3) := by decide +kernel
theorem d_Model_tellsBy_17 : decode b_Model_tellsBy 17 = .ok (.bipush 8, 2) := by decide +kernel
theorem d_Model_tellsBy_19 : decode b_Model_tellsBy 19 = .ok (.iload_n 1, 1) := by decide +kernel
theorem d_Model_tellsBy_20 : decode b_Model_tellsBy 20 = .ok (.iadd, 1) := by decide +kernel
theorem d_Model_tellsBy_21 : decode b_Model_tellsBy 21 = .ok (.iaload, 1) := by decide +kernel
theorem d_Model_tellsBy_22 : decode b_Model_tellsBy 22 = .ok (.invokevirtual 253, 3) := by decide +kernel
theorem d_Model_tellsBy_25 : decode b_Model_tellsBy 25 = .ok (.lxor, 1) := by decide +kernel
theorem d_Model_tellsBy_26 : decode b_Model_tellsBy 26 = .ok (.aload_n 0, 1) := by decide +kernel
theorem d_Model_tellsBy_27 : decode b_Model_tellsBy 27 = .ok (.invokevirtual 270, 3) := by decide +kernel
theorem d_Model_tellsBy_30 : decode b_Model_tellsBy 30 = .ok (.land, 1) := by decide +kernel
theorem d_Model_tellsBy_31 : decode b_Model_tellsBy 31 = .ok (.lreturn, 1) := by decide +kernel
theorem d_Model_find_0 : decode b_Model_find 0 = .ok (.iconst 0, 1) := by decide +kernel
theorem d_Model_find_1 : decode b_Model_find 1 = .ok (.istore_n 1, 1) := by decide +kernel
theorem d_Model_find_2 : decode b_Model_find 2 = .ok (.iload_n 1, 1) := by decide +kernel
theorem d_Model_find_3 : decode b_Model_find 3 = .ok (.aload_n 0, 1) := by decide +kernel
theorem d_Model_find_4 : decode b_Model_find 4 = .ok (.getfield 277, 3) := by decide +kernel
theorem d_Model_find_7 : decode b_Model_find 7 = .ok (.if_icmp .ge 16, 3) := by decide +kernel
theorem d_Model_find_10 : decode b_Model_find 10 = .ok (.aload_n 0, 1) := by decide +kernel
theorem d_Model_find_11 : decode b_Model_find 11 = .ok (.getfield 103, 3) := by decide +kernel
theorem d_Model_find_14 : decode b_Model_find 14 = .ok (.iload_n 1, 1) := by decide +kernel
theorem d_Model_find_15 : decode b_Model_find 15 = .ok (.iconst 0, 1) := by decide +kernel
theorem d_Model_find_16 : decode b_Model_find 16 = .ok (.bastore, 1) := by decide +kernel
theorem d_Model_find_17 : decode b_Model_find 17 = .ok (.iinc 1 1, 3) := by decide +kernel
theorem d_Model_find_20 : decode b_Model_find 20 = .ok (.goto (-18), 3) := by decide +kernel
theorem d_Model_find_23 : decode b_Model_find 23 = .ok (.aload_n 0, 1) := by decide +kernel
theorem d_Model_find_24 : decode b_Model_find 24 = .ok (.getfield 286, 3) := by decide +kernel
theorem d_Model_find_27 : decode b_Model_find 27 = .ok (.iconst 1, 1) := by decide +kernel
theorem d_Model_find_28 : decode b_Model_find 28 = .ok (.isub, 1) := by decide +kernel
theorem d_Model_find_29 : decode b_Model_find 29 = .ok (.istore_n 1, 1) := by decide +kernel
theorem d_Model_find_30 : decode b_Model_find 30 = .ok (.iload_n 1, 1) := by decide +kernel
theorem d_Model_find_31 : decode b_Model_find 31 = .ok (.ifCond .lt 147, 3) := by decide +kernel
theorem d_Model_find_34 : decode b_Model_find 34 = .ok (.aload_n 0, 1) := by decide +kernel
theorem d_Model_find_35 : decode b_Model_find 35 = .ok (.getfield 97, 3) := by decide +kernel
theorem d_Model_find_38 : decode b_Model_find 38 = .ok (.iload_n 1, 1) := by decide +kernel
theorem d_Model_find_39 : decode b_Model_find 39 = .ok (.iaload, 1) := by decide +kernel
theorem d_Model_find_40 : decode b_Model_find 40 = .ok (.istore_n 2, 1) := by decide +kernel
theorem d_Model_find_41 : decode b_Model_find 41 = .ok (.aload_n 0, 1) := by decide +kernel
theorem d_Model_find_42 : decode b_Model_find 42 = .ok (.getfield 100, 3) := by decide +kernel
theorem d_Model_find_45 : decode b_Model_find 45 = .ok (.iload_n 2, 1) := by decide +kernel
theorem d_Model_find_46 : decode b_Model_find 46 = .ok (.iaload, 1) := by decide +kernel
theorem d_Model_find_47 : decode b_Model_find 47 = .ok (.aload_n 0, 1) := by decide +kernel
theorem d_Model_find_48 : decode b_Model_find 48 = .ok (.getfield 289, 3) := by decide +kernel
theorem d_Model_find_51 : decode b_Model_find 51 = .ok (.if_icmp .le 6, 3) := by decide +kernel
theorem d_Model_find_54 : decode b_Model_find 54 = .ok (.goto 118, 3) := by decide +kernel
theorem d_Model_find_57 : decode b_Model_find 57 = .ok (.aload_n 0, 1) := by decide +kernel
theorem d_Model_find_58 : decode b_Model_find 58 = .ok (.getfield 100, 3) := by decide +kernel
theorem d_Model_find_61 : decode b_Model_find 61 = .ok (.iload_n 2, 1) := by decide +kernel
theorem d_Model_find_62 : decode b_Model_find 62 = .ok (.iaload, 1) := by decide +kernel
theorem d_Model_find_63 : decode b_Model_find 63 = .ok (.aload_n 0, 1) := by decide +kernel
theorem d_Model_find_64 : decode b_Model_find 64 = .ok (.getfield 289, 3) := by decide +kernel
theorem d_Model_find_67 : decode b_Model_find 67 = .ok (.if_icmp .ne 28, 3) := by decide +kernel
theorem d_Model_find_70 : decode b_Model_find 70 = .ok (.aload_n 0, 1) := by decide +kernel
theorem d_Model_find_71 : decode b_Model_find 71 = .ok (.getfield 103, 3) := by decide +kernel
theorem d_Model_find_74 : decode b_Model_find 74 = .ok (.iload_n 2, 1) := by decide +kernel
theorem d_Model_find_75 : decode b_Model_find 75 = .ok (.aload_n 0, 1) := by decide +kernel
theorem d_Model_find_76 : decode b_Model_find 76 = .ok (.getfield 89, 3) := by decide +kernel
theorem d_Model_find_79 : decode b_Model_find 79 = .ok (.iload_n 2, 1) := by decide +kernel
theorem d_Model_find_80 : decode b_Model_find 80 = .ok (.laload, 1) := by decide +kernel
theorem d_Model_find_81 : decode b_Model_find 81 = .ok (.lconst 0, 1) := by decide +kernel
theorem d_Model_find_82 : decode b_Model_find 82 = .ok (.lcmp, 1) := by decide +kernel
theorem d_Model_find_83 : decode b_Model_find 83 = .ok (.ifCond .eq 7, 3) := by decide +kernel
theorem d_Model_find_86 : decode b_Model_find 86 = .ok (.iconst 1, 1) := by decide +kernel
theorem d_Model_find_87 : decode b_Model_find 87 = .ok (.goto 4, 3) := by decide +kernel
theorem d_Model_find_90 : decode b_Model_find 90 = .ok (.iconst 0, 1) := by decide +kernel
theorem d_Model_find_91 : decode b_Model_find 91 = .ok (.bastore, 1) := by decide +kernel
theorem d_Model_find_92 : decode b_Model_find 92 = .ok (.goto 80, 3) := by decide +kernel
theorem d_Model_find_95 : decode b_Model_find 95 = .ok (.iconst 0, 1) := by decide +kernel
theorem d_Model_find_96 : decode b_Model_find 96 = .ok (.istore_n 3, 1) := by decide +kernel
theorem d_Model_find_97 : decode b_Model_find 97 = .ok (.iload_n 3, 1) := by decide +kernel
theorem d_Model_find_98 : decode b_Model_find 98 = .ok (.aload_n 0, 1) := by decide +kernel
theorem d_Model_find_99 : decode b_Model_find 99 = .ok (.getfield 274, 3) := by decide +kernel
theorem d_Model_find_102 : decode b_Model_find 102 = .ok (.if_icmp .ge 70, 3) := by decide +kernel
theorem d_Model_find_105 : decode b_Model_find 105 = .ok (.aload_n 0, 1) := by decide +kernel
theorem d_Model_find_106 : decode b_Model_find 106 = .ok (.getfield 93, 3) := by decide +kernel
theorem d_Model_find_109 : decode b_Model_find 109 = .ok (.bipush 32, 2) := by decide +kernel
theorem d_Model_find_111 : decode b_Model_find 111 = .ok (.iload_n 2, 1) := by decide +kernel
theorem d_Model_find_112 : decode b_Model_find 112 = .ok (.imul, 1) := by decide +kernel
theorem d_Model_find_113 : decode b_Model_find 113 = .ok (.iload_n 3, 1) := by decide +kernel
theorem d_Model_find_114 : decode b_Model_find 114 = .ok (.iadd, 1) := by decide +kernel
theorem d_Model_find_115 : decode b_Model_find 115 = .ok (.caload, 1) := by decide +kernel
theorem d_Model_find_116 : decode b_Model_find 116 = .ok (.istore 4, 2) := by decide +kernel
theorem d_Model_find_118 : decode b_Model_find 118 = .ok (.aload_n 0, 1) := by decide +kernel
theorem d_Model_find_119 : decode b_Model_find 119 = .ok (.getfield 103, 3) := by decide +kernel
theorem d_Model_find_122 : decode b_Model_find 122 = .ok (.iload_n 2, 1) := by decide +kernel
theorem d_Model_find_123 : decode b_Model_find 123 = .ok (.aload_n 0, 1) := by decide +kernel
theorem d_Model_find_124 : decode b_Model_find 124 = .ok (.getfield 103, 3) := by decide +kernel
theorem d_Model_find_127 : decode b_Model_find 127 = .ok (.iload_n 2, 1) := by decide +kernel
theorem d_Model_find_128 : decode b_Model_find 128 = .ok (.baload, 1) := by decide +kernel
theorem d_Model_find_129 : decode b_Model_find 129 = .ok (.ifCond .ne 31, 3) := by decide +kernel
theorem d_Model_find_132 : decode b_Model_find 132 = .ok (.aload_n 0, 1) := by decide +kernel
theorem d_Model_find_133 : decode b_Model_find 133 = .ok (.getfield 100, 3) := by decide +kernel
theorem d_Model_find_136 : decode b_Model_find 136 = .ok (.iload 4, 2) := by decide +kernel
theorem d_Model_find_138 : decode b_Model_find 138 = .ok (.iaload, 1) := by decide +kernel
theorem d_Model_find_139 : decode b_Model_find 139 = .ok (.aload_n 0, 1) := by decide +kernel
theorem d_Model_find_140 : decode b_Model_find 140 = .ok (.getfield 100, 3) := by decide +kernel
theorem d_Model_find_143 : decode b_Model_find 143 = .ok (.iload_n 2, 1) := by decide +kernel
theorem d_Model_find_144 : decode b_Model_find 144 = .ok (.iaload, 1) := by decide +kernel
theorem d_Model_find_145 : decode b_Model_find 145 = .ok (.iconst 1, 1) := by decide +kernel
theorem d_Model_find_146 : decode b_Model_find 146 = .ok (.iadd, 1) := by decide +kernel
theorem d_Model_find_147 : decode b_Model_find 147 = .ok (.if_icmp .ne 17, 3) := by decide +kernel
theorem d_Model_find_150 : decode b_Model_find 150 = .ok (.aload_n 0, 1) := by decide +kernel
theorem d_Model_find_151 : decode b_Model_find 151 = .ok (.getfield 103, 3) := by decide +kernel
theorem d_Model_find_154 : decode b_Model_find 154 = .ok (.iload 4, 2) := by decide +kernel
theorem d_Model_find_156 : decode b_Model_find 156 = .ok (.baload, 1) := by decide +kernel
theorem d_Model_find_157 : decode b_Model_find 157 = .ok (.ifCond .eq 7, 3) := by decide +kernel
theorem d_Model_find_160 : decode b_Model_find 160 = .ok (.iconst 1, 1) := by decide +kernel
theorem d_Model_find_161 : decode b_Model_find 161 = .ok (.goto 4, 3) := by decide +kernel
theorem d_Model_find_164 : decode b_Model_find 164 = .ok (.iconst 0, 1) := by decide +kernel
theorem d_Model_find_165 : decode b_Model_find 165 = .ok (.bastore, 1) := by decide +kernel
theorem d_Model_find_166 : decode b_Model_find 166 = .ok (.iinc 3 1, 3) := by decide +kernel
theorem d_Model_find_169 : decode b_Model_find 169 = .ok (.goto (-72), 3) := by decide +kernel
theorem d_Model_find_172 : decode b_Model_find 172 = .ok (.iinc 1 (-1), 3) := by decide +kernel
theorem d_Model_find_175 : decode b_Model_find 175 = .ok (.goto (-145), 3) := by decide +kernel
theorem d_Model_find_178 : decode b_Model_find 178 = .ok (.iconst 0, 1) := by decide +kernel
theorem d_Model_find_179 : decode b_Model_find 179 = .ok (.istore_n 1, 1) := by decide +kernel
theorem d_Model_find_180 : decode b_Model_find 180 = .ok (.iconst 1, 1) := by decide +kernel
theorem d_Model_find_181 : decode b_Model_find 181 = .ok (.istore_n 2, 1) := by decide +kernel
theorem d_Model_find_182 : decode b_Model_find 182 = .ok (.iload_n 2, 1) := by decide +kernel
theorem d_Model_find_183 : decode b_Model_find 183 = .ok (.aload_n 0, 1) := by decide +kernel
theorem d_Model_find_184 : decode b_Model_find 184 = .ok (.getfield 289, 3) := by decide +kernel
theorem d_Model_find_187 : decode b_Model_find 187 = .ok (.if_icmp .ge 86, 3) := by decide +kernel
theorem d_Model_find_190 : decode b_Model_find 190 = .ok (.iconst 0, 1) := by decide +kernel
theorem d_Model_find_191 : decode b_Model_find 191 = .ok (.istore_n 3, 1) := by decide +kernel
theorem d_Model_find_192 : decode b_Model_find 192 = .ok (.aload_n 0, 1) := by decide +kernel
theorem d_Model_find_193 : decode b_Model_find 193 = .ok (.getfield 103, 3) := by decide +kernel
theorem d_Model_find_196 : decode b_Model_find 196 = .ok (.aload_n 0, 1) := by decide +kernel
theorem d_Model_find_197 : decode b_Model_find 197 = .ok (.getfield 93, 3) := by decide +kernel
theorem d_Model_find_200 : decode b_Model_find 200 = .ok (.bipush 32, 2) := by decide +kernel
theorem d_Model_find_202 : decode b_Model_find 202 = .ok (.iload_n 1, 1) := by decide +kernel
theorem d_Model_find_203 : decode b_Model_find 203 = .ok (.imul, 1) := by decide +kernel
theorem d_Model_find_204 : decode b_Model_find 204 = .ok (.iload_n 3, 1) := by decide +kernel
theorem d_Model_find_205 : decode b_Model_find 205 = .ok (.iadd, 1) := by decide +kernel
theorem d_Model_find_206 : decode b_Model_find 206 = .ok (.caload, 1) := by decide +kernel
theorem d_Model_find_207 : decode b_Model_find 207 = .ok (.baload, 1) := by decide +kernel
theorem d_Model_find_208 : decode b_Model_find 208 = .ok (.ifCond .eq 25, 3) := by decide +kernel
theorem d_Model_find_211 : decode b_Model_find 211 = .ok (.aload_n 0, 1) := by decide +kernel
theorem d_Model_find_212 : decode b_Model_find 212 = .ok (.getfield 100, 3) := by decide +kernel
theorem d_Model_find_215 : decode b_Model_find 215 = .ok (.aload_n 0, 1) := by decide +kernel
theorem d_Model_find_216 : decode b_Model_find 216 = .ok (.getfield 93, 3) := by decide +kernel
theorem d_Model_find_219 : decode b_Model_find 219 = .ok (.bipush 32, 2) := by decide +kernel
theorem d_Model_find_221 : decode b_Model_find 221 = .ok (.iload_n 1, 1) := by decide +kernel
theorem d_Model_find_222 : decode b_Model_find 222 = .ok (.imul, 1) := by decide +kernel
theorem d_Model_find_223 : decode b_Model_find 223 = .ok (.iload_n 3, 1) := by decide +kernel
theorem d_Model_find_224 : decode b_Model_find 224 = .ok (.iadd, 1) := by decide +kernel
theorem d_Model_find_225 : decode b_Model_find 225 = .ok (.caload, 1) := by decide +kernel
theorem d_Model_find_226 : decode b_Model_find 226 = .ok (.iaload, 1) := by decide +kernel
theorem d_Model_find_227 : decode b_Model_find 227 = .ok (.iload_n 2, 1) := by decide +kernel
theorem d_Model_find_228 : decode b_Model_find 228 = .ok (.iconst 1, 1) := by decide +kernel
theorem d_Model_find_229 : decode b_Model_find 229 = .ok (.iadd, 1) := by decide +kernel
theorem d_Model_find_230 : decode b_Model_find 230 = .ok (.if_icmp .eq 9, 3) := by decide +kernel
theorem d_Model_find_233 : decode b_Model_find 233 = .ok (.iinc 3 1, 3) := by decide +kernel
theorem d_Model_find_236 : decode b_Model_find 236 = .ok (.goto (-44), 3) := by decide +kernel
theorem d_Model_find_239 : decode b_Model_find 239 = .ok (.iload_n 2, 1) := by decide +kernel
theorem d_Model_find_240 : decode b_Model_find 240 = .ok (.sipush 256, 3) := by decide +kernel
theorem d_Model_find_243 : decode b_Model_find 243 = .ok (.if_icmp .gt 12, 3) := by decide +kernel
theorem d_Model_find_246 : decode b_Model_find 246 = .ok (.aload_n 0, 1) := by decide +kernel
theorem d_Model_find_247 : decode b_Model_find 247 = .ok (.getfield 112, 3) := by decide +kernel
theorem d_Model_find_250 : decode b_Model_find 250 = .ok (.iload_n 2, 1) := by decide +kernel
theorem d_Model_find_251 : decode b_Model_find 251 = .ok (.iconst 1, 1) := by decide +kernel
theorem d_Model_find_252 : decode b_Model_find 252 = .ok (.isub, 1) := by decide +kernel
theorem d_Model_find_253 : decode b_Model_find 253 = .ok (.iload_n 3, 1) := by decide +kernel
theorem d_Model_find_254 : decode b_Model_find 254 = .ok (.iastore, 1) := by decide +kernel
theorem d_Model_find_255 : decode b_Model_find 255 = .ok (.aload_n 0, 1) := by decide +kernel
theorem d_Model_find_256 : decode b_Model_find 256 = .ok (.getfield 93, 3) := by decide +kernel
theorem d_Model_find_259 : decode b_Model_find 259 = .ok (.bipush 32, 2) := by decide +kernel
theorem d_Model_find_261 : decode b_Model_find 261 = .ok (.iload_n 1, 1) := by decide +kernel
theorem d_Model_find_262 : decode b_Model_find 262 = .ok (.imul, 1) := by decide +kernel
theorem d_Model_find_263 : decode b_Model_find 263 = .ok (.iload_n 3, 1) := by decide +kernel
theorem d_Model_find_264 : decode b_Model_find 264 = .ok (.iadd, 1) := by decide +kernel
theorem d_Model_find_265 : decode b_Model_find 265 = .ok (.caload, 1) := by decide +kernel
theorem d_Model_find_266 : decode b_Model_find 266 = .ok (.istore_n 1, 1) := by decide +kernel
theorem d_Model_find_267 : decode b_Model_find 267 = .ok (.iinc 2 1, 3) := by decide +kernel
theorem d_Model_find_270 : decode b_Model_find 270 = .ok (.goto (-88), 3) := by decide +kernel
theorem d_Model_find_273 : decode b_Model_find 273 = .ok (.iconst 0, 1) := by decide +kernel
theorem d_Model_find_274 : decode b_Model_find 274 = .ok (.istore_n 2, 1) := by decide +kernel
theorem d_Model_find_275 : decode b_Model_find 275 = .ok (.aload_n 0, 1) := by decide +kernel
theorem d_Model_find_276 : decode b_Model_find 276 = .ok (.getfield 89, 3) := by decide +kernel
theorem d_Model_find_279 : decode b_Model_find 279 = .ok (.iload_n 1, 1) := by decide +kernel
theorem d_Model_find_280 : decode b_Model_find 280 = .ok (.laload, 1) := by decide +kernel
theorem d_Model_find_281 : decode b_Model_find 281 = .ok (.iload_n 2, 1) := by decide +kernel
theorem d_Model_find_282 : decode b_Model_find 282 = .ok (.lshr, 1) := by decide +kernel
theorem d_Model_find_283 : decode b_Model_find 283 = .ok (.lconst 1, 1) := by decide +kernel
theorem d_Model_find_284 : decode b_Model_find 284 = .ok (.land, 1) := by decide +kernel
theorem d_Model_find_285 : decode b_Model_find 285 = .ok (.lconst 0, 1) := by decide +kernel
theorem d_Model_find_286 : decode b_Model_find 286 = .ok (.lcmp, 1) := by decide +kernel
theorem d_Model_find_287 : decode b_Model_find 287 = .ok (.ifCond .ne 9, 3) := by decide +kernel
theorem d_Model_find_290 : decode b_Model_find 290 = .ok (.iinc 2 1, 3) := by decide +kernel
theorem d_Model_find_293 : decode b_Model_find 293 = .ok (.goto (-18), 3) := by decide +kernel
theorem d_Model_find_296 : decode b_Model_find 296 = .ok (.aload_n 0, 1) := by decide +kernel
theorem d_Model_find_297 : decode b_Model_find 297 = .ok (.getfield 289, 3) := by decide +kernel
theorem d_Model_find_300 : decode b_Model_find 300 = .ok (.sipush 256, 3) := by decide +kernel
theorem d_Model_find_303 : decode b_Model_find 303 = .ok (.if_icmp .gt 15, 3) := by decide +kernel
theorem d_Model_find_306 : decode b_Model_find 306 = .ok (.aload_n 0, 1) := by decide +kernel
theorem d_Model_find_307 : decode b_Model_find 307 = .ok (.getfield 112, 3) := by decide +kernel
theorem d_Model_find_310 : decode b_Model_find 310 = .ok (.aload_n 0, 1) := by decide +kernel
theorem d_Model_find_311 : decode b_Model_find 311 = .ok (.getfield 289, 3) := by decide +kernel
theorem d_Model_find_314 : decode b_Model_find 314 = .ok (.iconst 1, 1) := by decide +kernel
theorem d_Model_find_315 : decode b_Model_find 315 = .ok (.isub, 1) := by decide +kernel
theorem d_Model_find_316 : decode b_Model_find 316 = .ok (.iload_n 2, 1) := by decide +kernel
theorem d_Model_find_317 : decode b_Model_find 317 = .ok (.iastore, 1) := by decide +kernel
theorem d_Model_find_318 : decode b_Model_find 318 = .ok (.aload_n 0, 1) := by decide +kernel
theorem d_Model_find_319 : decode b_Model_find 319 = .ok (.iload_n 1, 1) := by decide +kernel
theorem d_Model_find_320 : decode b_Model_find 320 = .ok (.invokevirtual 280, 3) := by decide +kernel
theorem d_Model_find_323 : decode b_Model_find 323 = .ok (.aload_n 0, 1) := by decide +kernel
theorem d_Model_find_324 : decode b_Model_find 324 = .ok (.iconst 0, 1) := by decide +kernel
theorem d_Model_find_325 : decode b_Model_find 325 = .ok (.putfield 295, 3) := by decide +kernel
theorem d_Model_find_328 : decode b_Model_find 328 = .ok (.aload_n 0, 1) := by decide +kernel
theorem d_Model_find_329 : decode b_Model_find 329 = .ok (.aload_n 0, 1) := by decide +kernel
theorem d_Model_find_330 : decode b_Model_find 330 = .ok (.getfield 295, 3) := by decide +kernel
theorem d_Model_find_333 : decode b_Model_find 333 = .ok (.invokevirtual 283, 3) := by decide +kernel
theorem d_Model_find_336 : decode b_Model_find 336 = .ok (.iload_n 2, 1) := by decide +kernel
theorem d_Model_find_337 : decode b_Model_find 337 = .ok (.lshr, 1) := by decide +kernel
theorem d_Model_find_338 : decode b_Model_find 338 = .ok (.lconst 1, 1) := by decide +kernel
theorem d_Model_find_339 : decode b_Model_find 339 = .ok (.land, 1) := by decide +kernel
theorem d_Model_find_340 : decode b_Model_find 340 = .ok (.lconst 0, 1) := by decide +kernel
theorem d_Model_find_341 : decode b_Model_find 341 = .ok (.lcmp, 1) := by decide +kernel
theorem d_Model_find_342 : decode b_Model_find 342 = .ok (.ifCond .ne 16, 3) := by decide +kernel
theorem d_Model_find_345 : decode b_Model_find 345 = .ok (.aload_n 0, 1) := by decide +kernel
theorem d_Model_find_346 : decode b_Model_find 346 = .ok (.dup, 1) := by decide +kernel
theorem d_Model_find_347 : decode b_Model_find 347 = .ok (.getfield 295, 3) := by decide +kernel
theorem d_Model_find_350 : decode b_Model_find 350 = .ok (.iconst 1, 1) := by decide +kernel
theorem d_Model_find_351 : decode b_Model_find 351 = .ok (.iadd, 1) := by decide +kernel
theorem d_Model_find_352 : decode b_Model_find 352 = .ok (.putfield 295, 3) := by decide +kernel
theorem d_Model_find_355 : decode b_Model_find 355 = .ok (.goto (-27), 3) := by decide +kernel
theorem d_Model_find_358 : decode b_Model_find 358 = .ok (.return_, 1) := by decide +kernel
theorem d_Model_look_0 : decode b_Model_look 0 = .ok (.aload_n 0, 1) := by decide +kernel
theorem d_Model_look_1 : decode b_Model_look 1 = .ok (.getfield 200, 3) := by decide +kernel
theorem d_Model_look_4 : decode b_Model_look 4 = .ok (.ifCond .eq 4, 3) := by decide +kernel
theorem d_Model_look_7 : decode b_Model_look 7 = .ok (.return_, 1) := by decide +kernel
theorem d_Model_look_8 : decode b_Model_look 8 = .ok (.aload_n 0, 1) := by decide +kernel
theorem d_Model_look_9 : decode b_Model_look 9 = .ok (.iconst 1, 1) := by decide +kernel
theorem d_Model_look_10 : decode b_Model_look 10 = .ok (.putfield 200, 3) := by decide +kernel
theorem d_Model_look_13 : decode b_Model_look 13 = .ok (.aload_n 0, 1) := by decide +kernel
theorem d_Model_look_14 : decode b_Model_look 14 = .ok (.iconst 1, 1) := by decide +kernel
theorem d_Model_look_15 : decode b_Model_look 15 = .ok (.aload_n 0, 1) := by decide +kernel
theorem d_Model_look_16 : decode b_Model_look 16 = .ok (.getfield 20, 3) := by decide +kernel
theorem d_Model_look_19 : decode b_Model_look 19 = .ok (.iconst 1, 1) := by decide +kernel
theorem d_Model_look_20 : decode b_Model_look 20 = .ok (.iaload, 1) := by decide +kernel
theorem d_Model_look_21 : decode b_Model_look 21 = .ok (.ishl, 1) := by decide +kernel
theorem d_Model_look_22 : decode b_Model_look 22 = .ok (.putfield 274, 3) := by decide +kernel
theorem d_Model_look_25 : decode b_Model_look 25 = .ok (.aload_n 0, 1) := by decide +kernel
theorem d_Model_look_26 : decode b_Model_look 26 = .ok (.iconst 1, 1) := by decide +kernel
theorem d_Model_look_27 : decode b_Model_look 27 = .ok (.aload_n 0, 1) := by decide +kernel
theorem d_Model_look_28 : decode b_Model_look 28 = .ok (.getfield 20, 3) := by decide +kernel
theorem d_Model_look_31 : decode b_Model_look 31 = .ok (.iconst 2, 1) := by decide +kernel
theorem d_Model_look_32 : decode b_Model_look 32 = .ok (.iaload, 1) := by decide +kernel
theorem d_Model_look_33 : decode b_Model_look 33 = .ok (.aload_n 0, 1) := by decide +kernel
theorem d_Model_look_34 : decode b_Model_look 34 = .ok (.getfield 20, 3) := by decide +kernel
theorem d_Model_look_37 : decode b_Model_look 37 = .ok (.bipush 7, 2) := by decide +kernel
theorem d_Model_look_39 : decode b_Model_look 39 = .ok (.iaload, 1) := by decide +kernel
theorem d_Model_look_40 : decode b_Model_look 40 = .ok (.iadd, 1) := by decide +kernel
theorem d_Model_look_41 : decode b_Model_look 41 = .ok (.ishl, 1) := by decide +kernel
theorem d_Model_look_42 : decode b_Model_look 42 = .ok (.putfield 277, 3) := by decide +kernel
theorem d_Model_look_45 : decode b_Model_look 45 = .ok (.iconst 0, 1) := by decide +kernel
theorem d_Model_look_46 : decode b_Model_look 46 = .ok (.istore_n 1, 1) := by decide +kernel
theorem d_Model_look_47 : decode b_Model_look 47 = .ok (.iload_n 1, 1) := by decide +kernel
theorem d_Model_look_48 : decode b_Model_look 48 = .ok (.aload_n 0, 1) := by decide +kernel
theorem d_Model_look_49 : decode b_Model_look 49 = .ok (.getfield 277, 3) := by decide +kernel
theorem d_Model_look_52 : decode b_Model_look 52 = .ok (.if_icmp .ge 112, 3) := by decide +kernel
theorem d_Model_look_55 : decode b_Model_look 55 = .ok (.aload_n 0, 1) := by decide +kernel
theorem d_Model_look_56 : decode b_Model_look 56 = .ok (.iload_n 1, 1) := by decide +kernel
theorem d_Model_look_57 : decode b_Model_look 57 = .ok (.invokevirtual 280, 3) := by decide +kernel
theorem d_Model_look_60 : decode b_Model_look 60 = .ok (.aload_n 0, 1) := by decide +kernel
theorem d_Model_look_61 : decode b_Model_look 61 = .ok (.getfield 89, 3) := by decide +kernel
theorem d_Model_look_64 : decode b_Model_look 64 = .ok (.iload_n 1, 1) := by decide +kernel
theorem d_Model_look_65 : decode b_Model_look 65 = .ok (.lconst 0, 1) := by decide +kernel
theorem d_Model_look_66 : decode b_Model_look 66 = .ok (.lastore, 1) := by decide +kernel
theorem d_Model_look_67 : decode b_Model_look 67 = .ok (.iconst 0, 1) := by decide +kernel
theorem d_Model_look_68 : decode b_Model_look 68 = .ok (.istore_n 2, 1) := by decide +kernel
theorem d_Model_look_69 : decode b_Model_look 69 = .ok (.iload_n 2, 1) := by decide +kernel
theorem d_Model_look_70 : decode b_Model_look 70 = .ok (.aload_n 0, 1) := by decide +kernel
theorem d_Model_look_71 : decode b_Model_look 71 = .ok (.getfield 20, 3) := by decide +kernel
theorem d_Model_look_74 : decode b_Model_look 74 = .ok (.iconst 3, 1) := by decide +kernel
theorem d_Model_look_75 : decode b_Model_look 75 = .ok (.iaload, 1) := by decide +kernel
theorem d_Model_look_76 : decode b_Model_look 76 = .ok (.if_icmp .ge 27, 3) := by decide +kernel
theorem d_Model_look_79 : decode b_Model_look 79 = .ok (.aload_n 0, 1) := by decide +kernel
theorem d_Model_look_80 : decode b_Model_look 80 = .ok (.getfield 89, 3) := by decide +kernel
theorem d_Model_look_83 : decode b_Model_look 83 = .ok (.iload_n 1, 1) := by decide +kernel
theorem d_Model_look_84 : decode b_Model_look 84 = .ok (.aload_n 0, 1) := by decide +kernel
theorem d_Model_look_85 : decode b_Model_look 85 = .ok (.getfield 89, 3) := by decide +kernel
theorem d_Model_look_88 : decode b_Model_look 88 = .ok (.iload_n 1, 1) := by decide +kernel
theorem d_Model_look_89 : decode b_Model_look 89 = .ok (.laload, 1) := by decide +kernel
theorem d_Model_look_90 : decode b_Model_look 90 = .ok (.aload_n 0, 1) := by decide +kernel
theorem d_Model_look_91 : decode b_Model_look 91 = .ok (.iload_n 2, 1) := by decide +kernel
theorem d_Model_look_92 : decode b_Model_look 92 = .ok (.invokevirtual 283, 3) := by decide +kernel
theorem d_Model_look_95 : decode b_Model_look 95 = .ok (.lor, 1) := by decide +kernel
theorem d_Model_look_96 : decode b_Model_look 96 = .ok (.lastore, 1) := by decide +kernel
theorem d_Model_look_97 : decode b_Model_look 97 = .ok (.iinc 2 1, 3) := by decide +kernel
theorem d_Model_look_100 : decode b_Model_look 100 = .ok (.goto (-31), 3) := by decide +kernel
theorem d_Model_look_103 : decode b_Model_look 103 = .ok (.iconst 0, 1) := by decide +kernel
theorem d_Model_look_104 : decode b_Model_look 104 = .ok (.istore_n 2, 1) := by decide +kernel
theorem d_Model_look_105 : decode b_Model_look 105 = .ok (.iload_n 2, 1) := by decide +kernel
theorem d_Model_look_106 : decode b_Model_look 106 = .ok (.aload_n 0, 1) := by decide +kernel
theorem d_Model_look_107 : decode b_Model_look 107 = .ok (.getfield 274, 3) := by decide +kernel
theorem d_Model_look_110 : decode b_Model_look 110 = .ok (.if_icmp .ge 41, 3) := by decide +kernel
theorem d_Model_look_113 : decode b_Model_look 113 = .ok (.aload_n 0, 1) := by decide +kernel
theorem d_Model_look_114 : decode b_Model_look 114 = .ok (.getfield 93, 3) := by decide +kernel
theorem d_Model_look_117 : decode b_Model_look 117 = .ok (.bipush 32, 2) := by decide +kernel
theorem d_Model_look_119 : decode b_Model_look 119 = .ok (.iload_n 1, 1) := by decide +kernel
theorem d_Model_look_120 : decode b_Model_look 120 = .ok (.imul, 1) := by decide +kernel
theorem d_Model_look_121 : decode b_Model_look 121 = .ok (.iload_n 2, 1) := by decide +kernel
theorem d_Model_look_122 : decode b_Model_look 122 = .ok (.iadd, 1) := by decide +kernel
theorem d_Model_look_123 : decode b_Model_look 123 = .ok (.aload_n 0, 1) := by decide +kernel
theorem d_Model_look_124 : decode b_Model_look 124 = .ok (.iconst 0, 1) := by decide +kernel
theorem d_Model_look_125 : decode b_Model_look 125 = .ok (.iload_n 2, 1) := by decide +kernel
theorem d_Model_look_126 : decode b_Model_look 126 = .ok (.invokevirtual 264, 3) := by decide +kernel
theorem d_Model_look_129 : decode b_Model_look 129 = .ok (.aload_n 0, 1) := by decide +kernel
theorem d_Model_look_130 : decode b_Model_look 130 = .ok (.iconst 1, 1) := by decide +kernel
theorem d_Model_look_131 : decode b_Model_look 131 = .ok (.iload_n 2, 1) := by decide +kernel
theorem d_Model_look_132 : decode b_Model_look 132 = .ok (.invokevirtual 264, 3) := by decide +kernel
theorem d_Model_look_135 : decode b_Model_look 135 = .ok (.aload_n 0, 1) := by decide +kernel
theorem d_Model_look_136 : decode b_Model_look 136 = .ok (.getfield 20, 3) := by decide +kernel
theorem d_Model_look_139 : decode b_Model_look 139 = .ok (.iconst 2, 1) := by decide +kernel
theorem d_Model_look_140 : decode b_Model_look 140 = .ok (.iaload, 1) := by decide +kernel
theorem d_Model_look_141 : decode b_Model_look 141 = .ok (.ishl, 1) := by decide +kernel
theorem d_Model_look_142 : decode b_Model_look 142 = .ok (.ior, 1) := by decide +kernel
theorem d_Model_look_143 : decode b_Model_look 143 = .ok (.i2c, 1) := by decide +kernel
theorem d_Model_look_144 : decode b_Model_look 144 = .ok (.castore, 1) := by decide +kernel
theorem d_Model_look_145 : decode b_Model_look 145 = .ok (.iinc 2 1, 3) := by decide +kernel
theorem d_Model_look_148 : decode b_Model_look 148 = .ok (.goto (-43), 3) := by decide +kernel
theorem d_Model_look_151 : decode b_Model_look 151 = .ok (.aload_n 0, 1) := by decide +kernel
theorem d_Model_look_152 : decode b_Model_look 152 = .ok (.getfield 100, 3) := by decide +kernel
theorem d_Model_look_155 : decode b_Model_look 155 = .ok (.iload_n 1, 1) := by decide +kernel
theorem d_Model_look_156 : decode b_Model_look 156 = .ok (.iconst 0, 1) := by decide +kernel
theorem d_Model_look_157 : decode b_Model_look 157 = .ok (.iastore, 1) := by decide +kernel
theorem d_Model_look_158 : decode b_Model_look 158 = .ok (.iinc 1 1, 3) := by decide +kernel
theorem d_Model_look_161 : decode b_Model_look 161 = .ok (.goto (-114), 3) := by decide +kernel
theorem d_Model_look_164 : decode b_Model_look 164 = .ok (.aload_n 0, 1) := by decide +kernel
theorem d_Model_look_165 : decode b_Model_look 165 = .ok (.iconst 1, 1) := by decide +kernel
theorem d_Model_look_166 : decode b_Model_look 166 = .ok (.putfield 286, 3) := by decide +kernel
theorem d_Model_look_169 : decode b_Model_look 169 = .ok (.aload_n 0, 1) := by decide +kernel
theorem d_Model_look_170 : decode b_Model_look 170 = .ok (.getfield 97, 3) := by decide +kernel
theorem d_Model_look_173 : decode b_Model_look 173 = .ok (.iconst 0, 1) := by decide +kernel
theorem d_Model_look_174 : decode b_Model_look 174 = .ok (.iconst 0, 1) := by decide +kernel
theorem d_Model_look_175 : decode b_Model_look 175 = .ok (.iastore, 1) := by decide +kernel
theorem d_Model_look_176 : decode b_Model_look 176 = .ok (.aload_n 0, 1) := by decide +kernel
theorem d_Model_look_177 : decode b_Model_look 177 = .ok (.getfield 100, 3) := by decide +kernel
theorem d_Model_look_180 : decode b_Model_look 180 = .ok (.iconst 0, 1) := by decide +kernel
theorem d_Model_look_181 : decode b_Model_look 181 = .ok (.iconst 1, 1) := by decide +kernel
theorem d_Model_look_182 : decode b_Model_look 182 = .ok (.iastore, 1) := by decide +kernel
theorem d_Model_look_183 : decode b_Model_look 183 = .ok (.aload_n 0, 1) := by decide +kernel
theorem d_Model_look_184 : decode b_Model_look 184 = .ok (.iconst 0, 1) := by decide +kernel
theorem d_Model_look_185 : decode b_Model_look 185 = .ok (.putfield 289, 3) := by decide +kernel
theorem d_Model_look_188 : decode b_Model_look 188 = .ok (.iconst 0, 1) := by decide +kernel
theorem d_Model_look_189 : decode b_Model_look 189 = .ok (.istore_n 1, 1) := by decide +kernel
theorem d_Model_look_190 : decode b_Model_look 190 = .ok (.iload_n 1, 1) := by decide +kernel
theorem d_Model_look_191 : decode b_Model_look 191 = .ok (.aload_n 0, 1) := by decide +kernel
theorem d_Model_look_192 : decode b_Model_look 192 = .ok (.getfield 286, 3) := by decide +kernel
theorem d_Model_look_195 : decode b_Model_look 195 = .ok (.if_icmp .ge 122, 3) := by decide +kernel
theorem d_Model_look_198 : decode b_Model_look 198 = .ok (.aload_n 0, 1) := by decide +kernel
theorem d_Model_look_199 : decode b_Model_look 199 = .ok (.getfield 97, 3) := by decide +kernel
theorem d_Model_look_202 : decode b_Model_look 202 = .ok (.iload_n 1, 1) := by decide +kernel
theorem d_Model_look_203 : decode b_Model_look 203 = .ok (.iaload, 1) := by decide +kernel
theorem d_Model_look_204 : decode b_Model_look 204 = .ok (.istore_n 2, 1) := by decide +kernel
theorem d_Model_look_205 : decode b_Model_look 205 = .ok (.aload_n 0, 1) := by decide +kernel
theorem d_Model_look_206 : decode b_Model_look 206 = .ok (.getfield 289, 3) := by decide +kernel
theorem d_Model_look_209 : decode b_Model_look 209 = .ok (.ifCond .ne 24, 3) := by decide +kernel
theorem d_Model_look_212 : decode b_Model_look 212 = .ok (.aload_n 0, 1) := by decide +kernel
theorem d_Model_look_213 : decode b_Model_look 213 = .ok (.getfield 89, 3) := by decide +kernel
theorem d_Model_look_216 : decode b_Model_look 216 = .ok (.iload_n 2, 1) := by decide +kernel
theorem d_Model_look_217 : decode b_Model_look 217 = .ok (.laload, 1) := by decide +kernel
theorem d_Model_look_218 : decode b_Model_look 218 = .ok (.lconst 0, 1) := by decide +kernel
theorem d_Model_look_219 : decode b_Model_look 219 = .ok (.lcmp, 1) := by decide +kernel
theorem d_Model_look_220 : decode b_Model_look 220 = .ok (.ifCond .eq 13, 3) := by decide +kernel
theorem d_Model_look_223 : decode b_Model_look 223 = .ok (.aload_n 0, 1) := by decide +kernel
theorem d_Model_look_224 : decode b_Model_look 224 = .ok (.aload_n 0, 1) := by decide +kernel
theorem d_Model_look_225 : decode b_Model_look 225 = .ok (.getfield 100, 3) := by decide +kernel
theorem d_Model_look_228 : decode b_Model_look 228 = .ok (.iload_n 2, 1) := by decide +kernel
theorem d_Model_look_229 : decode b_Model_look 229 = .ok (.iaload, 1) := by decide +kernel
theorem d_Model_look_230 : decode b_Model_look 230 = .ok (.putfield 289, 3) := by decide +kernel
theorem d_Model_look_233 : decode b_Model_look 233 = .ok (.iconst 0, 1) := by decide +kernel
theorem d_Model_look_234 : decode b_Model_look 234 = .ok (.istore_n 3, 1) := by decide +kernel
theorem d_Model_look_235 : decode b_Model_look 235 = .ok (.iload_n 3, 1) := by decide +kernel
theorem d_Model_look_236 : decode b_Model_look 236 = .ok (.aload_n 0, 1) := by decide +kernel
theorem d_Model_look_237 : decode b_Model_look 237 = .ok (.getfield 274, 3) := by decide +kernel
theorem d_Model_look_240 : decode b_Model_look 240 = .ok (.if_icmp .ge 71, 3) := by decide +kernel
theorem d_Model_look_243 : decode b_Model_look 243 = .ok (.aload_n 0, 1) := by decide +kernel
theorem d_Model_look_244 : decode b_Model_look 244 = .ok (.getfield 93, 3) := by decide +kernel
theorem d_Model_look_247 : decode b_Model_look 247 = .ok (.bipush 32, 2) := by decide +kernel
theorem d_Model_look_249 : decode b_Model_look 249 = .ok (.iload_n 2, 1) := by decide +kernel
theorem d_Model_look_250 : decode b_Model_look 250 = .ok (.imul, 1) := by decide +kernel
theorem d_Model_look_251 : decode b_Model_look 251 = .ok (.iload_n 3, 1) := by decide +kernel
theorem d_Model_look_252 : decode b_Model_look 252 = .ok (.iadd, 1) := by decide +kernel
theorem d_Model_look_253 : decode b_Model_look 253 = .ok (.caload, 1) := by decide +kernel
theorem d_Model_look_254 : decode b_Model_look 254 = .ok (.istore 4, 2) := by decide +kernel
theorem d_Model_look_256 : decode b_Model_look 256 = .ok (.aload_n 0, 1) := by decide +kernel
theorem d_Model_look_257 : decode b_Model_look 257 = .ok (.getfield 100, 3) := by decide +kernel
theorem d_Model_look_260 : decode b_Model_look 260 = .ok (.iload 4, 2) := by decide +kernel
theorem d_Model_look_262 : decode b_Model_look 262 = .ok (.iaload, 1) := by decide +kernel
theorem d_Model_look_263 : decode b_Model_look 263 = .ok (.ifCond .le 6, 3) := by decide +kernel
theorem d_Model_look_266 : decode b_Model_look 266 = .ok (.goto 39, 3) := by decide +kernel
theorem d_Model_look_269 : decode b_Model_look 269 = .ok (.aload_n 0, 1) := by decide +kernel
theorem d_Model_look_270 : decode b_Model_look 270 = .ok (.getfield 100, 3) := by decide +kernel
theorem d_Model_look_273 : decode b_Model_look 273 = .ok (.iload 4, 2) := by decide +kernel
theorem d_Model_look_275 : decode b_Model_look 275 = .ok (.aload_n 0, 1) := by decide +kernel
theorem d_Model_look_276 : decode b_Model_look 276 = .ok (.getfield 100, 3) := by decide +kernel
theorem d_Model_look_279 : decode b_Model_look 279 = .ok (.iload_n 2, 1) := by decide +kernel
theorem d_Model_look_280 : decode b_Model_look 280 = .ok (.iaload, 1) := by decide +kernel
theorem d_Model_look_281 : decode b_Model_look 281 = .ok (.iconst 1, 1) := by decide +kernel
theorem d_Model_look_282 : decode b_Model_look 282 = .ok (.iadd, 1) := by decide +kernel
theorem d_Model_look_283 : decode b_Model_look 283 = .ok (.iastore, 1) := by decide +kernel
theorem d_Model_look_284 : decode b_Model_look 284 = .ok (.aload_n 0, 1) := by decide +kernel
theorem d_Model_look_285 : decode b_Model_look 285 = .ok (.getfield 97, 3) := by decide +kernel
theorem d_Model_look_288 : decode b_Model_look 288 = .ok (.aload_n 0, 1) := by decide +kernel
theorem d_Model_look_289 : decode b_Model_look 289 = .ok (.getfield 286, 3) := by decide +kernel
theorem d_Model_look_292 : decode b_Model_look 292 = .ok (.iload 4, 2) := by decide +kernel
theorem d_Model_look_294 : decode b_Model_look 294 = .ok (.iastore, 1) := by decide +kernel
theorem d_Model_look_295 : decode b_Model_look 295 = .ok (.aload_n 0, 1) := by decide +kernel
theorem d_Model_look_296 : decode b_Model_look 296 = .ok (.dup, 1) := by decide +kernel
theorem d_Model_look_297 : decode b_Model_look 297 = .ok (.getfield 286, 3) := by decide +kernel
theorem d_Model_look_300 : decode b_Model_look 300 = .ok (.iconst 1, 1) := by decide +kernel
theorem d_Model_look_301 : decode b_Model_look 301 = .ok (.iadd, 1) := by decide +kernel
theorem d_Model_look_302 : decode b_Model_look 302 = .ok (.putfield 286, 3) := by decide +kernel
theorem d_Model_look_305 : decode b_Model_look 305 = .ok (.iinc 3 1, 3) := by decide +kernel
theorem d_Model_look_308 : decode b_Model_look 308 = .ok (.goto (-73), 3) := by decide +kernel
theorem d_Model_look_311 : decode b_Model_look 311 = .ok (.iinc 1 1, 3) := by decide +kernel
theorem d_Model_look_314 : decode b_Model_look 314 = .ok (.goto (-124), 3) := by decide +kernel
theorem d_Model_look_317 : decode b_Model_look 317 = .ok (.aload_n 0, 1) := by decide +kernel
theorem d_Model_look_318 : decode b_Model_look 318 = .ok (.getfield 289, 3) := by decide +kernel
theorem d_Model_look_321 : decode b_Model_look 321 = .ok (.ifCond .le 7, 3) := by decide +kernel
theorem d_Model_look_324 : decode b_Model_look 324 = .ok (.aload_n 0, 1) := by decide +kernel
theorem d_Model_look_325 : decode b_Model_look 325 = .ok (.invokevirtual 292, 3) := by decide +kernel
theorem d_Model_look_328 : decode b_Model_look 328 = .ok (.return_, 1) := by decide +kernel
theorem d_Model_none_0 : decode b_Model_none 0 = .ok (.aload_n 0, 1) := by decide +kernel
theorem d_Model_none_1 : decode b_Model_none 1 = .ok (.iconst 0, 1) := by decide +kernel
theorem d_Model_none_2 : decode b_Model_none 2 = .ok (.putfield 127, 3) := by decide +kernel
theorem d_Model_none_5 : decode b_Model_none 5 = .ok (.aload_n 0, 1) := by decide +kernel
theorem d_Model_none_6 : decode b_Model_none 6 = .ok (.aload_n 0, 1) := by decide +kernel
theorem d_Model_none_7 : decode b_Model_none 7 = .ok (.invokevirtual 298, 3) := by decide +kernel
theorem d_Model_none_10 : decode b_Model_none 10 = .ok (.ifCond .ne 7, 3) := by decide +kernel
theorem d_Model_none_13 : decode b_Model_none 13 = .ok (.iconst 1, 1) := by decide +kernel
theorem d_Model_none_14 : decode b_Model_none 14 = .ok (.goto 4, 3) := by decide +kernel
theorem d_Model_none_17 : decode b_Model_none 17 = .ok (.iconst 0, 1) := by decide +kernel
theorem d_Model_none_18 : decode b_Model_none 18 = .ok (.iconst 1, 1) := by decide +kernel
theorem d_Model_none_19 : decode b_Model_none 19 = .ok (.invokevirtual 301, 3) := by decide +kernel
theorem d_Model_none_22 : decode b_Model_none 22 = .ok (.ifCond .eq 5, 3) := by decide +kernel
theorem d_Model_none_25 : decode b_Model_none 25 = .ok (.iconst 1, 1) := by decide +kernel
theorem d_Model_none_26 : decode b_Model_none 26 = .ok (.ireturn, 1) := by decide +kernel
theorem d_Model_none_27 : decode b_Model_none 27 = .ok (.aload_n 0, 1) := by decide +kernel
theorem d_Model_none_28 : decode b_Model_none 28 = .ok (.invokevirtual 305, 3) := by decide +kernel
theorem d_Model_none_31 : decode b_Model_none 31 = .ok (.iconst 0, 1) := by decide +kernel
theorem d_Model_none_32 : decode b_Model_none 32 = .ok (.ireturn, 1) := by decide +kernel
theorem d_Model_judge_0 : decode b_Model_judge 0 = .ok (.aload_n 0, 1) := by decide +kernel
theorem d_Model_judge_1 : decode b_Model_judge 1 = .ok (.invokevirtual 308, 3) := by decide +kernel
theorem d_Model_judge_4 : decode b_Model_judge 4 = .ok (.ifCond .eq 7, 3) := by decide +kernel
theorem d_Model_judge_7 : decode b_Model_judge 7 = .ok (.iconst 0, 1) := by decide +kernel
theorem d_Model_judge_8 : decode b_Model_judge 8 = .ok (.goto 7, 3) := by decide +kernel
theorem d_Model_judge_11 : decode b_Model_judge 11 = .ok (.aload_n 0, 1) := by decide +kernel
theorem d_Model_judge_12 : decode b_Model_judge 12 = .ok (.getfield 289, 3) := by decide +kernel
theorem d_Model_judge_15 : decode b_Model_judge 15 = .ok (.ireturn, 1) := by decide +kernel
theorem d_Model_witness_0 : decode b_Model_witness 0 = .ok (.aload_n 0, 1) := by decide +kernel
theorem d_Model_witness_1 : decode b_Model_witness 1 = .ok (.iconst 0, 1) := by decide +kernel
theorem d_Model_witness_2 : decode b_Model_witness 2 = .ok (.putfield 127, 3) := by decide +kernel
theorem d_Model_witness_5 : decode b_Model_witness 5 = .ok (.aload_n 0, 1) := by decide +kernel
theorem d_Model_witness_6 : decode b_Model_witness 6 = .ok (.invokevirtual 298, 3) := by decide +kernel
theorem d_Model_witness_9 : decode b_Model_witness 9 = .ok (.ifCond .ne 5, 3) := by decide +kernel
theorem d_Model_witness_12 : decode b_Model_witness 12 = .ok (.iconst (-1), 1) := by decide +kernel
theorem d_Model_witness_13 : decode b_Model_witness 13 = .ok (.ireturn, 1) := by decide +kernel
theorem d_Model_witness_14 : decode b_Model_witness 14 = .ok (.aload_n 0, 1) := by decide +kernel
theorem d_Model_witness_15 : decode b_Model_witness 15 = .ok (.invokevirtual 305, 3) := by decide +kernel
theorem d_Model_witness_18 : decode b_Model_witness 18 = .ok (.iload_n 1, 1) := by decide +kernel
theorem d_Model_witness_19 : decode b_Model_witness 19 = .ok (.ifCond .lt 18, 3) := by decide +kernel
theorem d_Model_witness_22 : decode b_Model_witness 22 = .ok (.iload_n 1, 1) := by decide +kernel
theorem d_Model_witness_23 : decode b_Model_witness 23 = .ok (.sipush 255, 3) := by decide +kernel
theorem d_Model_witness_26 : decode b_Model_witness 26 = .ok (.if_icmp .gt 11, 3) := by decide +kernel
theorem d_Model_witness_29 : decode b_Model_witness 29 = .ok (.iload_n 1, 1) := by decide +kernel
theorem d_Model_witness_30 : decode b_Model_witness 30 = .ok (.aload_n 0, 1) := by decide +kernel
theorem d_Model_witness_31 : decode b_Model_witness 31 = .ok (.getfield 289, 3) := by decide +kernel
theorem d_Model_witness_34 : decode b_Model_witness 34 = .ok (.if_icmp .lt 7, 3) := by decide +kernel
theorem d_Model_witness_37 : decode b_Model_witness 37 = .ok (.iconst (-1), 1) := by decide +kernel
theorem d_Model_witness_38 : decode b_Model_witness 38 = .ok (.goto 9, 3) := by decide +kernel
theorem d_Model_witness_41 : decode b_Model_witness 41 = .ok (.aload_n 0, 1) := by decide +kernel
theorem d_Model_witness_42 : decode b_Model_witness 42 = .ok (.getfield 112, 3) := by decide +kernel
theorem d_Model_witness_45 : decode b_Model_witness 45 = .ok (.iload_n 1, 1) := by decide +kernel
theorem d_Model_witness_46 : decode b_Model_witness 46 = .ok (.iaload, 1) := by decide +kernel
theorem d_Model_witness_47 : decode b_Model_witness 47 = .ok (.ireturn, 1) := by decide +kernel
theorem d_Model_blame_0 : decode b_Model_blame 0 = .ok (.aload_n 0, 1) := by decide +kernel
theorem d_Model_blame_1 : decode b_Model_blame 1 = .ok (.iconst 0, 1) := by decide +kernel
theorem d_Model_blame_2 : decode b_Model_blame 2 = .ok (.putfield 127, 3) := by decide +kernel
theorem d_Model_blame_5 : decode b_Model_blame 5 = .ok (.aload_n 0, 1) := by decide +kernel
theorem d_Model_blame_6 : decode b_Model_blame 6 = .ok (.invokevirtual 298, 3) := by decide +kernel
theorem d_Model_blame_9 : decode b_Model_blame 9 = .ok (.ifCond .ne 5, 3) := by decide +kernel
theorem d_Model_blame_12 : decode b_Model_blame 12 = .ok (.iconst (-1), 1) := by decide +kernel
theorem d_Model_blame_13 : decode b_Model_blame 13 = .ok (.ireturn, 1) := by decide +kernel
theorem d_Model_blame_14 : decode b_Model_blame 14 = .ok (.aload_n 0, 1) := by decide +kernel
theorem d_Model_blame_15 : decode b_Model_blame 15 = .ok (.invokevirtual 305, 3) := by decide +kernel
theorem d_Model_blame_18 : decode b_Model_blame 18 = .ok (.aload_n 0, 1) := by decide +kernel
theorem d_Model_blame_19 : decode b_Model_blame 19 = .ok (.getfield 289, 3) := by decide +kernel
theorem d_Model_blame_22 : decode b_Model_blame 22 = .ok (.ifCond .eq 13, 3) := by decide +kernel
theorem d_Model_blame_25 : decode b_Model_blame 25 = .ok (.aload_n 0, 1) := by decide +kernel
theorem d_Model_blame_26 : decode b_Model_blame 26 = .ok (.getfield 289, 3) := by decide +kernel
theorem d_Model_blame_29 : decode b_Model_blame 29 = .ok (.sipush 256, 3) := by decide +kernel
theorem d_Model_blame_32 : decode b_Model_blame 32 = .ok (.if_icmp .le 7, 3) := by decide +kernel
theorem d_Model_blame_35 : decode b_Model_blame 35 = .ok (.iconst (-1), 1) := by decide +kernel
theorem d_Model_blame_36 : decode b_Model_blame 36 = .ok (.goto 7, 3) := by decide +kernel
theorem d_Model_blame_39 : decode b_Model_blame 39 = .ok (.aload_n 0, 1) := by decide +kernel
theorem d_Model_blame_40 : decode b_Model_blame 40 = .ok (.getfield 295, 3) := by decide +kernel
theorem d_Model_blame_43 : decode b_Model_blame 43 = .ok (.ireturn, 1) := by decide +kernel
theorem d_Model_differs_0 : decode b_Model_differs 0 = .ok (.aload_n 0, 1) := by decide +kernel
theorem d_Model_differs_1 : decode b_Model_differs 1 = .ok (.invokevirtual 308, 3) := by decide +kernel
theorem d_Model_differs_4 : decode b_Model_differs 4 = .ok (.ifCond .ne 27, 3) := by decide +kernel
theorem d_Model_differs_7 : decode b_Model_differs 7 = .ok (.aload_n 0, 1) := by decide +kernel
theorem d_Model_differs_8 : decode b_Model_differs 8 = .ok (.iload_n 1, 1) := by decide +kernel
theorem d_Model_differs_9 : decode b_Model_differs 9 = .ok (.iconst 1, 1) := by decide +kernel
theorem d_Model_differs_10 : decode b_Model_differs 10 = .ok (.if_icmp .lt 9, 3) := by decide +kernel
theorem d_Model_differs_13 : decode b_Model_differs 13 = .ok (.iload_n 1, 1) := by decide +kernel
theorem d_Model_differs_14 : decode b_Model_differs 14 = .ok (.bipush 16, 2) := by decide +kernel
theorem d_Model_differs_16 : decode b_Model_differs 16 = .ok (.if_icmp .le 7, 3) := by decide +kernel
theorem d_Model_differs_19 : decode b_Model_differs 19 = .ok (.iconst 1, 1) := by decide +kernel
theorem d_Model_differs_20 : decode b_Model_differs 20 = .ok (.goto 4, 3) := by decide +kernel
theorem d_Model_differs_23 : decode b_Model_differs 23 = .ok (.iconst 0, 1) := by decide +kernel
theorem d_Model_differs_24 : decode b_Model_differs 24 = .ok (.iconst 2, 1) := by decide +kernel
theorem d_Model_differs_25 : decode b_Model_differs 25 = .ok (.invokevirtual 301, 3) := by decide +kernel
theorem d_Model_differs_28 : decode b_Model_differs 28 = .ok (.ifCond .eq 5, 3) := by decide +kernel
theorem d_Model_differs_31 : decode b_Model_differs 31 = .ok (.iconst 0, 1) := by decide +kernel
theorem d_Model_differs_32 : decode b_Model_differs 32 = .ok (.ireturn, 1) := by decide +kernel
theorem d_Model_differs_33 : decode b_Model_differs 33 = .ok (.aload_n 0, 1) := by decide +kernel
theorem d_Model_differs_34 : decode b_Model_differs 34 = .ok (.getfield 289, 3) := by decide +kernel
theorem d_Model_differs_37 : decode b_Model_differs 37 = .ok (.iload_n 1, 1) := by decide +kernel
theorem d_Model_differs_38 : decode b_Model_differs 38 = .ok (.if_icmp .gt 10, 3) := by decide +kernel
theorem d_Model_differs_41 : decode b_Model_differs 41 = .ok (.aload_n 0, 1) := by decide +kernel
theorem d_Model_differs_42 : decode b_Model_differs 42 = .ok (.getfield 289, 3) := by decide +kernel
theorem d_Model_differs_45 : decode b_Model_differs 45 = .ok (.goto 4, 3) := by decide +kernel
theorem d_Model_differs_48 : decode b_Model_differs 48 = .ok (.iconst 0, 1) := by decide +kernel
theorem d_Model_differs_49 : decode b_Model_differs 49 = .ok (.ireturn, 1) := by decide +kernel
