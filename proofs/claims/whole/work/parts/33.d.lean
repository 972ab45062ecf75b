theorem d_Law_load_0 : decode b_Law_load 0 = .ok (.aload_n 2, 1) := by decide +kernel
theorem d_Law_load_1 : decode b_Law_load 1 = .ok (.iconst 0, 1) := by decide +kernel
theorem d_Law_load_2 : decode b_Law_load 2 = .ok (.aload_n 0, 1) := by decide +kernel
theorem d_Law_load_3 : decode b_Law_load 3 = .ok (.iload_n 1, 1) := by decide +kernel
theorem d_Law_load_4 : decode b_Law_load 4 = .ok (.invokevirtual 7, 3) := by decide +kernel
theorem d_Law_load_7 : decode b_Law_load 7 = .ok (.i2l, 1) := by decide +kernel
theorem d_Law_load_8 : decode b_Law_load 8 = .ok (.lastore, 1) := by decide +kernel
theorem d_Law_load_9 : decode b_Law_load 9 = .ok (.goto 6, 3) := by decide +kernel
theorem d_Law_load_12 : decode b_Law_load 12 = .ok (.astore_n 3, 1) := by decide +kernel
theorem d_Law_load_13 : decode b_Law_load 13 = .ok (.iconst 1, 1) := by decide +kernel
theorem d_Law_load_14 : decode b_Law_load 14 = .ok (.ireturn, 1) := by decide +kernel
theorem d_Law_load_15 : decode b_Law_load 15 = .ok (.iconst 0, 1) := by decide +kernel
theorem d_Law_load_16 : decode b_Law_load 16 = .ok (.ireturn, 1) := by decide +kernel
theorem d_Law_gates_0 : decode b_Law_gates 0 = .ok (.aload_n 1, 1) := by decide +kernel
theorem d_Law_gates_1 : decode b_Law_gates 1 = .ok (.iconst 0, 1) := by decide +kernel
theorem d_Law_gates_2 : decode b_Law_gates 2 = .ok (.aload_n 0, 1) := by decide +kernel
theorem d_Law_gates_3 : decode b_Law_gates 3 = .ok (.invokevirtual 15, 3) := by decide +kernel
theorem d_Law_gates_6 : decode b_Law_gates 6 = .ok (.i2l, 1) := by decide +kernel
theorem d_Law_gates_7 : decode b_Law_gates 7 = .ok (.lastore, 1) := by decide +kernel
theorem d_Law_gates_8 : decode b_Law_gates 8 = .ok (.goto 6, 3) := by decide +kernel
theorem d_Law_gates_11 : decode b_Law_gates 11 = .ok (.astore_n 2, 1) := by decide +kernel
theorem d_Law_gates_12 : decode b_Law_gates 12 = .ok (.iconst 1, 1) := by decide +kernel
theorem d_Law_gates_13 : decode b_Law_gates 13 = .ok (.ireturn, 1) := by decide +kernel
theorem d_Law_gates_14 : decode b_Law_gates 14 = .ok (.iconst 0, 1) := by decide +kernel
theorem d_Law_gates_15 : decode b_Law_gates 15 = .ok (.ireturn, 1) := by decide +kernel
theorem d_Law_judge_0 : decode b_Law_judge 0 = .ok (.aload_n 1, 1) := by decide +kernel
theorem d_Law_judge_1 : decode b_Law_judge 1 = .ok (.iconst 0, 1) := by decide +kernel
theorem d_Law_judge_2 : decode b_Law_judge 2 = .ok (.aload_n 0, 1) := by decide +kernel
theorem d_Law_judge_3 : decode b_Law_judge 3 = .ok (.invokevirtual 21, 3) := by decide +kernel
theorem d_Law_judge_6 : decode b_Law_judge 6 = .ok (.i2l, 1) := by decide +kernel
theorem d_Law_judge_7 : decode b_Law_judge 7 = .ok (.lastore, 1) := by decide +kernel
theorem d_Law_judge_8 : decode b_Law_judge 8 = .ok (.goto 6, 3) := by decide +kernel
theorem d_Law_judge_11 : decode b_Law_judge 11 = .ok (.astore_n 2, 1) := by decide +kernel
theorem d_Law_judge_12 : decode b_Law_judge 12 = .ok (.iconst 1, 1) := by decide +kernel
theorem d_Law_judge_13 : decode b_Law_judge 13 = .ok (.ireturn, 1) := by decide +kernel
theorem d_Law_judge_14 : decode b_Law_judge 14 = .ok (.iconst 0, 1) := by decide +kernel
theorem d_Law_judge_15 : decode b_Law_judge 15 = .ok (.ireturn, 1) := by decide +kernel
theorem d_Law_differs_0 : decode b_Law_differs 0 = .ok (.aload_n 2, 1) := by decide +kernel
theorem d_Law_differs_1 : decode b_Law_differs 1 = .ok (.iconst 0, 1) := by decide +kernel
theorem d_Law_differs_2 : decode b_Law_differs 2 = .ok (.aload_n 0, 1) := by decide +kernel
theorem d_Law_differs_3 : decode b_Law_differs 3 = .ok (.iload_n 1, 1) := by decide +kernel
theorem d_Law_differs_4 : decode b_Law_differs 4 = .ok (.invokevirtual 24, 3) := by decide +kernel
theorem d_Law_differs_7 : decode b_Law_differs 7 = .ok (.i2l, 1) := by decide +kernel
theorem d_Law_differs_8 : decode b_Law_differs 8 = .ok (.lastore, 1) := by decide +kernel
theorem d_Law_differs_9 : decode b_Law_differs 9 = .ok (.goto 9, 3) := by decide +kernel
theorem d_Law_differs_12 : decode b_Law_differs 12 = .ok (.astore_n 3, 1) := by decide +kernel
theorem d_Law_differs_13 : decode b_Law_differs 13 = .ok (.iconst 1, 1) := by decide +kernel
theorem d_Law_differs_14 : decode b_Law_differs 14 = .ok (.ireturn, 1) := by decide +kernel
theorem d_Law_differs_15 : decode b_Law_differs 15 = .ok (.astore_n 3, 1) := by decide +kernel
theorem d_Law_differs_16 : decode b_Law_differs 16 = .ok (.iconst 2, 1) := by decide +kernel
theorem d_Law_differs_17 : decode b_Law_differs 17 = .ok (.ireturn, 1) := by decide +kernel
theorem d_Law_differs_18 : decode b_Law_differs 18 = .ok (.iconst 0, 1) := by decide +kernel
theorem d_Law_differs_19 : decode b_Law_differs 19 = .ok (.ireturn, 1) := by decide +kernel
theorem d_Law_inductive_0 : decode b_Law_inductive 0 = .ok (.aload_n 2, 1) := by decide +kernel
theorem d_Law_inductive_1 : decode b_Law_inductive 1 = .ok (.iconst 0, 1) := by decide +kernel
theorem d_Law_inductive_2 : decode b_Law_inductive 2 = .ok (.aload_n 0, 1) := by decide +kernel
theorem d_Law_inductive_3 : decode b_Law_inductive 3 = .ok (.iload_n 1, 1) := by decide +kernel
theorem d_Law_inductive_4 : decode b_Law_inductive 4 = .ok (.invokevirtual 27, 3) := by decide +kernel
theorem d_Law_inductive_7 : decode b_Law_inductive 7 = .ok (.ifCond .eq 7, 3) := by decide +kernel
theorem d_Law_inductive_10 : decode b_Law_inductive 10 = .ok (.lconst 1, 1) := by decide +kernel
theorem d_Law_inductive_11 : decode b_Law_inductive 11 = .ok (.goto 4, 3) := by decide +kernel
theorem d_Law_inductive_14 : decode b_Law_inductive 14 = .ok (.lconst 0, 1) := by decide +kernel
theorem d_Law_inductive_15 : decode b_Law_inductive 15 = .ok (.lastore, 1) := by decide +kernel
theorem d_Law_inductive_16 : decode b_Law_inductive 16 = .ok (.goto 9, 3) := by decide +kernel
theorem d_Law_inductive_19 : decode b_Law_inductive 19 = .ok (.astore_n 3, 1) := by decide +kernel
theorem d_Law_inductive_20 : decode b_Law_inductive 20 = .ok (.iconst 1, 1) := by decide +kernel
theorem d_Law_inductive_21 : decode b_Law_inductive 21 = .ok (.ireturn, 1) := by decide +kernel
theorem d_Law_inductive_22 : decode b_Law_inductive 22 = .ok (.astore_n 3, 1) := by decide +kernel
theorem d_Law_inductive_23 : decode b_Law_inductive 23 = .ok (.iconst 2, 1) := by decide +kernel
theorem d_Law_inductive_24 : decode b_Law_inductive 24 = .ok (.ireturn, 1) := by decide +kernel
theorem d_Law_inductive_25 : decode b_Law_inductive 25 = .ok (.iconst 0, 1) := by decide +kernel
theorem d_Law_inductive_26 : decode b_Law_inductive 26 = .ok (.ireturn, 1) := by decide +kernel
theorem d_Law_pairs_0 : decode b_Law_pairs 0 = .ok (.aload_n 2, 1) := by decide +kernel
theorem d_Law_pairs_1 : decode b_Law_pairs 1 = .ok (.iconst 0, 1) := by decide +kernel
theorem d_Law_pairs_2 : decode b_Law_pairs 2 = .ok (.aload_n 0, 1) := by decide +kernel
theorem d_Law_pairs_3 : decode b_Law_pairs 3 = .ok (.iload_n 1, 1) := by decide +kernel
theorem d_Law_pairs_4 : decode b_Law_pairs 4 = .ok (.invokevirtual 31, 3) := by decide +kernel
theorem d_Law_pairs_7 : decode b_Law_pairs 7 = .ok (.i2l, 1) := by decide +kernel
theorem d_Law_pairs_8 : decode b_Law_pairs 8 = .ok (.lastore, 1) := by decide +kernel
theorem d_Law_pairs_9 : decode b_Law_pairs 9 = .ok (.goto 9, 3) := by decide +kernel
theorem d_Law_pairs_12 : decode b_Law_pairs 12 = .ok (.astore_n 3, 1) := by decide +kernel
theorem d_Law_pairs_13 : decode b_Law_pairs 13 = .ok (.iconst 1, 1) := by decide +kernel
theorem d_Law_pairs_14 : decode b_Law_pairs 14 = .ok (.ireturn, 1) := by decide +kernel
theorem d_Law_pairs_15 : decode b_Law_pairs 15 = .ok (.astore_n 3, 1) := by decide +kernel
theorem d_Law_pairs_16 : decode b_Law_pairs 16 = .ok (.iconst 2, 1) := by decide +kernel
theorem d_Law_pairs_17 : decode b_Law_pairs 17 = .ok (.ireturn, 1) := by decide +kernel
theorem d_Law_pairs_18 : decode b_Law_pairs 18 = .ok (.iconst 0, 1) := by decide +kernel
theorem d_Law_pairs_19 : decode b_Law_pairs 19 = .ok (.ireturn, 1) := by decide +kernel
theorem d_Law_depth_0 : decode b_Law_depth 0 = .ok (.aload_n 3, 1) := by decide +kernel
theorem d_Law_depth_1 : decode b_Law_depth 1 = .ok (.iconst 0, 1) := by decide +kernel
theorem d_Law_depth_2 : decode b_Law_depth 2 = .ok (.aload_n 0, 1) := by decide +kernel
theorem d_Law_depth_3 : decode b_Law_depth 3 = .ok (.iload_n 1, 1) := by decide +kernel
theorem d_Law_depth_4 : decode b_Law_depth 4 = .ok (.iload_n 2, 1) := by decide +kernel
theorem d_Law_depth_5 : decode b_Law_depth 5 = .ok (.invokevirtual 34, 3) := by decide +kernel
theorem d_Law_depth_8 : decode b_Law_depth 8 = .ok (.i2l, 1) := by decide +kernel
theorem d_Law_depth_9 : decode b_Law_depth 9 = .ok (.lastore, 1) := by decide +kernel
theorem d_Law_depth_10 : decode b_Law_depth 10 = .ok (.goto 11, 3) := by decide +kernel
theorem d_Law_depth_13 : decode b_Law_depth 13 = .ok (.astore 4, 2) := by decide +kernel
theorem d_Law_depth_15 : decode b_Law_depth 15 = .ok (.iconst 1, 1) := by decide +kernel
theorem d_Law_depth_16 : decode b_Law_depth 16 = .ok (.ireturn, 1) := by decide +kernel
theorem d_Law_depth_17 : decode b_Law_depth 17 = .ok (.astore 4, 2) := by decide +kernel
theorem d_Law_depth_19 : decode b_Law_depth 19 = .ok (.iconst 2, 1) := by decide +kernel
theorem d_Law_depth_20 : decode b_Law_depth 20 = .ok (.ireturn, 1) := by decide +kernel
theorem d_Law_depth_21 : decode b_Law_depth 21 = .ok (.iconst 0, 1) := by decide +kernel
theorem d_Law_depth_22 : decode b_Law_depth 22 = .ok (.ireturn, 1) := by decide +kernel
theorem d_Law_same_0 : decode b_Law_same 0 = .ok (.aload 5, 2) := by decide +kernel
theorem d_Law_same_2 : decode b_Law_same 2 = .ok (.iconst 0, 1) := by decide +kernel
theorem d_Law_same_3 : decode b_Law_same 3 = .ok (.aload_n 0, 1) := by decide +kernel
theorem d_Law_same_4 : decode b_Law_same 4 = .ok (.iload_n 1, 1) := by decide +kernel
theorem d_Law_same_5 : decode b_Law_same 5 = .ok (.iload_n 2, 1) := by decide +kernel
theorem d_Law_same_6 : decode b_Law_same 6 = .ok (.iload_n 3, 1) := by decide +kernel
theorem d_Law_same_7 : decode b_Law_same 7 = .ok (.iload 4, 2) := by decide +kernel
theorem d_Law_same_9 : decode b_Law_same 9 = .ok (.invokevirtual 38, 3) := by decide +kernel
theorem d_Law_same_12 : decode b_Law_same 12 = .ok (.ifCond .eq 7, 3) := by decide +kernel
theorem d_Law_same_15 : decode b_Law_same 15 = .ok (.lconst 1, 1) := by decide +kernel
theorem d_Law_same_16 : decode b_Law_same 16 = .ok (.goto 4, 3) := by decide +kernel
theorem d_Law_same_19 : decode b_Law_same 19 = .ok (.lconst 0, 1) := by decide +kernel
theorem d_Law_same_20 : decode b_Law_same 20 = .ok (.lastore, 1) := by decide +kernel
theorem d_Law_same_21 : decode b_Law_same 21 = .ok (.goto 11, 3) := by decide +kernel
theorem d_Law_same_24 : decode b_Law_same 24 = .ok (.astore 6, 2) := by decide +kernel
theorem d_Law_same_26 : decode b_Law_same 26 = .ok (.iconst 1, 1) := by decide +kernel
theorem d_Law_same_27 : decode b_Law_same 27 = .ok (.ireturn, 1) := by decide +kernel
theorem d_Law_same_28 : decode b_Law_same 28 = .ok (.astore 6, 2) := by decide +kernel
theorem d_Law_same_30 : decode b_Law_same 30 = .ok (.iconst 2, 1) := by decide +kernel
theorem d_Law_same_31 : decode b_Law_same 31 = .ok (.ireturn, 1) := by decide +kernel
theorem d_Law_same_32 : decode b_Law_same 32 = .ok (.iconst 0, 1) := by decide +kernel
theorem d_Law_same_33 : decode b_Law_same 33 = .ok (.ireturn, 1) := by decide +kernel
theorem d_Law_twin_0 : decode b_Law_twin 0 = .ok (.aload_n 3, 1) := by decide +kernel
theorem d_Law_twin_1 : decode b_Law_twin 1 = .ok (.iconst 0, 1) := by decide +kernel
theorem d_Law_twin_2 : decode b_Law_twin 2 = .ok (.aload_n 0, 1) := by decide +kernel
theorem d_Law_twin_3 : decode b_Law_twin 3 = .ok (.iload_n 1, 1) := by decide +kernel
theorem d_Law_twin_4 : decode b_Law_twin 4 = .ok (.iload_n 2, 1) := by decide +kernel
theorem d_Law_twin_5 : decode b_Law_twin 5 = .ok (.invokevirtual 42, 3) := by decide +kernel
theorem d_Law_twin_8 : decode b_Law_twin 8 = .ok (.i2l, 1) := by decide +kernel
theorem d_Law_twin_9 : decode b_Law_twin 9 = .ok (.lastore, 1) := by decide +kernel
theorem d_Law_twin_10 : decode b_Law_twin 10 = .ok (.goto 11, 3) := by decide +kernel
theorem d_Law_twin_13 : decode b_Law_twin 13 = .ok (.astore 4, 2) := by decide +kernel
theorem d_Law_twin_15 : decode b_Law_twin 15 = .ok (.iconst 1, 1) := by decide +kernel
theorem d_Law_twin_16 : decode b_Law_twin 16 = .ok (.ireturn, 1) := by decide +kernel
theorem d_Law_twin_17 : decode b_Law_twin 17 = .ok (.astore 4, 2) := by decide +kernel
theorem d_Law_twin_19 : decode b_Law_twin 19 = .ok (.iconst 2, 1) := by decide +kernel
theorem d_Law_twin_20 : decode b_Law_twin 20 = .ok (.ireturn, 1) := by decide +kernel
theorem d_Law_twin_21 : decode b_Law_twin 21 = .ok (.iconst 0, 1) := by decide +kernel
theorem d_Law_twin_22 : decode b_Law_twin 22 = .ok (.ireturn, 1) := by decide +kernel
theorem d_Law_law_0 : decode b_Law_law 0 = .ok (.new 8, 3) := by decide +kernel
theorem d_Law_law_3 : decode b_Law_law 3 = .ok (.dup, 1) := by decide +kernel
theorem d_Law_law_4 : decode b_Law_law 4 = .ok (.invokespecial 45, 3) := by decide +kernel
theorem d_Law_law_7 : decode b_Law_law 7 = .ok (.astore_n 1, 1) := by decide +kernel
theorem d_Law_law_8 : decode b_Law_law 8 = .ok (.new 46, 3) := by decide +kernel
theorem d_Law_law_11 : decode b_Law_law 11 = .ok (.dup, 1) := by decide +kernel
theorem d_Law_law_12 : decode b_Law_law 12 = .ok (.invokespecial 48, 3) := by decide +kernel
theorem d_Law_law_15 : decode b_Law_law 15 = .ok (.astore_n 2, 1) := by decide +kernel
theorem d_Law_law_16 : decode b_Law_law 16 = .ok (.iconst 1, 1) := by decide +kernel
theorem d_Law_law_17 : decode b_Law_law 17 = .ok (.newarray .long, 2) := by decide +kernel
theorem d_Law_law_19 : decode b_Law_law 19 = .ok (.astore_n 3, 1) := by decide +kernel
theorem d_Law_law_20 : decode b_Law_law 20 = .ok (.iconst 0, 1) := by decide +kernel
theorem d_Law_law_21 : decode b_Law_law 21 = .ok (.istore 4, 2) := by decide +kernel
theorem d_Law_law_23 : decode b_Law_law 23 = .ok (.iload 4, 2) := by decide +kernel
theorem d_Law_law_25 : decode b_Law_law 25 = .ok (.aload_n 0, 1) := by decide +kernel
theorem d_Law_law_26 : decode b_Law_law 26 = .ok (.arraylength, 1) := by decide +kernel
theorem d_Law_law_27 : decode b_Law_law 27 = .ok (.bipush 6, 2) := by decide +kernel
theorem d_Law_law_29 : decode b_Law_law 29 = .ok (.isub, 1) := by decide +kernel
theorem d_Law_law_30 : decode b_Law_law 30 = .ok (.if_icmp .gt 1050, 3) := by decide +kernel
theorem d_Law_law_33 : decode b_Law_law 33 = .ok (.aload_n 0, 1) := by decide +kernel
theorem d_Law_law_34 : decode b_Law_law 34 = .ok (.iload 4, 2) := by decide +kernel
theorem d_Law_law_36 : decode b_Law_law 36 = .ok (.iaload, 1) := by decide +kernel
theorem d_Law_law_37 : decode b_Law_law 37 = .ok (.bipush 31, 2) := by decide +kernel
theorem d_Law_law_39 : decode b_Law_law 39 = .ok (.iand, 1) := by decide +kernel
theorem d_Law_law_40 : decode b_Law_law 40 = .ok (.tableswitch 1034 0 20 #[100, 171, 196, 252, 277, 314, 375, 386, 411, 460, 485, 529, 573, 598, 611, 667, 730, 786, 854, 953, 1021], 100) := by decide +kernel
theorem d_Law_law_140 : decode b_Law_law 140 = .ok (.aload_n 1, 1) := by decide +kernel
theorem d_Law_law_141 : decode b_Law_law 141 = .ok (.aload_n 0, 1) := by decide +kernel
theorem d_Law_law_142 : decode b_Law_law 142 = .ok (.iload 4, 2) := by decide +kernel
theorem d_Law_law_144 : decode b_Law_law 144 = .ok (.iconst 1, 1) := by decide +kernel
theorem d_Law_law_145 : decode b_Law_law 145 = .ok (.iadd, 1) := by decide +kernel
theorem d_Law_law_146 : decode b_Law_law 146 = .ok (.iaload, 1) := by decide +kernel
theorem d_Law_law_147 : decode b_Law_law 147 = .ok (.aload_n 0, 1) := by decide +kernel
theorem d_Law_law_148 : decode b_Law_law 148 = .ok (.iload 4, 2) := by decide +kernel
theorem d_Law_law_150 : decode b_Law_law 150 = .ok (.iconst 2, 1) := by decide +kernel
theorem d_Law_law_151 : decode b_Law_law 151 = .ok (.iadd, 1) := by decide +kernel
theorem d_Law_law_152 : decode b_Law_law 152 = .ok (.iaload, 1) := by decide +kernel
theorem d_Law_law_153 : decode b_Law_law 153 = .ok (.aload_n 0, 1) := by decide +kernel
theorem d_Law_law_154 : decode b_Law_law 154 = .ok (.iload 4, 2) := by decide +kernel
theorem d_Law_law_156 : decode b_Law_law 156 = .ok (.iconst 3, 1) := by decide +kernel
theorem d_Law_law_157 : decode b_Law_law 157 = .ok (.iadd, 1) := by decide +kernel
theorem d_Law_law_158 : decode b_Law_law 158 = .ok (.iaload, 1) := by decide +kernel
theorem d_Law_law_159 : decode b_Law_law 159 = .ok (.aload_n 0, 1) := by decide +kernel
theorem d_Law_law_160 : decode b_Law_law 160 = .ok (.iload 4, 2) := by decide +kernel
theorem d_Law_law_162 : decode b_Law_law 162 = .ok (.iconst 4, 1) := by decide +kernel
theorem d_Law_law_163 : decode b_Law_law 163 = .ok (.iadd, 1) := by decide +kernel
theorem d_Law_law_164 : decode b_Law_law 164 = .ok (.iaload, 1) := by decide +kernel
theorem d_Law_law_165 : decode b_Law_law 165 = .ok (.aload_n 0, 1) := by decide +kernel
theorem d_Law_law_166 : decode b_Law_law 166 = .ok (.iload 4, 2) := by decide +kernel
theorem d_Law_law_168 : decode b_Law_law 168 = .ok (.iconst 5, 1) := by decide +kernel
theorem d_Law_law_169 : decode b_Law_law 169 = .ok (.iadd, 1) := by decide +kernel
theorem d_Law_law_170 : decode b_Law_law 170 = .ok (.iaload, 1) := by decide +kernel
theorem d_Law_law_171 : decode b_Law_law 171 = .ok (.invokevirtual 49, 3) := by decide +kernel
theorem d_Law_law_174 : decode b_Law_law 174 = .ok (.aload_n 2, 1) := by decide +kernel
theorem d_Law_law_175 : decode b_Law_law 175 = .ok (.aload_n 0, 1) := by decide +kernel
theorem d_Law_law_176 : decode b_Law_law 176 = .ok (.iload 4, 2) := by decide +kernel
theorem d_Law_law_178 : decode b_Law_law 178 = .ok (.iconst 1, 1) := by decide +kernel
theorem d_Law_law_179 : decode b_Law_law 179 = .ok (.iadd, 1) := by decide +kernel
theorem d_Law_law_180 : decode b_Law_law 180 = .ok (.iaload, 1) := by decide +kernel
theorem d_Law_law_181 : decode b_Law_law 181 = .ok (.aload_n 0, 1) := by decide +kernel
theorem d_Law_law_182 : decode b_Law_law 182 = .ok (.iload 4, 2) := by decide +kernel
theorem d_Law_law_184 : decode b_Law_law 184 = .ok (.iconst 2, 1) := by decide +kernel
theorem d_Law_law_185 : decode b_Law_law 185 = .ok (.iadd, 1) := by decide +kernel
theorem d_Law_law_186 : decode b_Law_law 186 = .ok (.iaload, 1) := by decide +kernel
theorem d_Law_law_187 : decode b_Law_law 187 = .ok (.aload_n 0, 1) := by decide +kernel
theorem d_Law_law_188 : decode b_Law_law 188 = .ok (.iload 4, 2) := by decide +kernel
theorem d_Law_law_190 : decode b_Law_law 190 = .ok (.iconst 3, 1) := by decide +kernel
theorem d_Law_law_191 : decode b_Law_law 191 = .ok (.iadd, 1) := by decide +kernel
theorem d_Law_law_192 : decode b_Law_law 192 = .ok (.iaload, 1) := by decide +kernel
theorem d_Law_law_193 : decode b_Law_law 193 = .ok (.aload_n 0, 1) := by decide +kernel
theorem d_Law_law_194 : decode b_Law_law 194 = .ok (.iload 4, 2) := by decide +kernel
theorem d_Law_law_196 : decode b_Law_law 196 = .ok (.iconst 4, 1) := by decide +kernel
theorem d_Law_law_197 : decode b_Law_law 197 = .ok (.iadd, 1) := by decide +kernel
theorem d_Law_law_198 : decode b_Law_law 198 = .ok (.iaload, 1) := by decide +kernel
theorem d_Law_law_199 : decode b_Law_law 199 = .ok (.aload_n 0, 1) := by decide +kernel
theorem d_Law_law_200 : decode b_Law_law 200 = .ok (.iload 4, 2) := by decide +kernel
theorem d_Law_law_202 : decode b_Law_law 202 = .ok (.iconst 5, 1) := by decide +kernel
theorem d_Law_law_203 : decode b_Law_law 203 = .ok (.iadd, 1) := by decide +kernel
theorem d_Law_law_204 : decode b_Law_law 204 = .ok (.iaload, 1) := by decide +kernel
theorem d_Law_law_205 : decode b_Law_law 205 = .ok (.invokevirtual 53, 3) := by decide +kernel
theorem d_Law_law_208 : decode b_Law_law 208 = .ok (.goto 866, 3) := by decide +kernel
theorem d_Law_law_211 : decode b_Law_law 211 = .ok (.aload_n 1, 1) := by decide +kernel
theorem d_Law_law_212 : decode b_Law_law 212 = .ok (.aload_n 0, 1) := by decide +kernel
theorem d_Law_law_213 : decode b_Law_law 213 = .ok (.iload 4, 2) := by decide +kernel
theorem d_Law_law_215 : decode b_Law_law 215 = .ok (.iconst 1, 1) := by decide +kernel
theorem d_Law_law_216 : decode b_Law_law 216 = .ok (.iadd, 1) := by decide +kernel
theorem d_Law_law_217 : decode b_Law_law 217 = .ok (.iaload, 1) := by decide +kernel
theorem d_Law_law_218 : decode b_Law_law 218 = .ok (.invokevirtual 54, 3) := by decide +kernel
theorem d_Law_law_221 : decode b_Law_law 221 = .ok (.aload_n 2, 1) := by decide +kernel
theorem d_Law_law_222 : decode b_Law_law 222 = .ok (.aload_n 0, 1) := by decide +kernel
theorem d_Law_law_223 : decode b_Law_law 223 = .ok (.iload 4, 2) := by decide +kernel
theorem d_Law_law_225 : decode b_Law_law 225 = .ok (.iconst 1, 1) := by decide +kernel
theorem d_Law_law_226 : decode b_Law_law 226 = .ok (.iadd, 1) := by decide +kernel
theorem d_Law_law_227 : decode b_Law_law 227 = .ok (.iaload, 1) := by decide +kernel
theorem d_Law_law_228 : decode b_Law_law 228 = .ok (.invokevirtual 57, 3) := by decide +kernel
theorem d_Law_law_231 : decode b_Law_law 231 = .ok (.if_icmp .eq 843, 3) := by decide +kernel
theorem d_Law_law_234 : decode b_Law_law 234 = .ok (.iconst 0, 1) := by decide +kernel
theorem d_Law_law_235 : decode b_Law_law 235 = .ok (.ireturn, 1) := by decide +kernel
theorem d_Law_law_236 : decode b_Law_law 236 = .ok (.aload_n 1, 1) := by decide +kernel
theorem d_Law_law_237 : decode b_Law_law 237 = .ok (.aload_n 0, 1) := by decide +kernel
theorem d_Law_law_238 : decode b_Law_law 238 = .ok (.iload 4, 2) := by decide +kernel
theorem d_Law_law_240 : decode b_Law_law 240 = .ok (.iconst 1, 1) := by decide +kernel
theorem d_Law_law_241 : decode b_Law_law 241 = .ok (.iadd, 1) := by decide +kernel
theorem d_Law_law_242 : decode b_Law_law 242 = .ok (.iaload, 1) := by decide +kernel
theorem d_Law_law_243 : decode b_Law_law 243 = .ok (.aload_n 3, 1) := by decide +kernel
theorem d_Law_law_244 : decode b_Law_law 244 = .ok (.invokestatic 58, 3) := by decide +kernel
theorem d_Law_law_247 : decode b_Law_law 247 = .ok (.istore 5, 2) := by decide +kernel
theorem d_Law_law_249 : decode b_Law_law 249 = .ok (.aload_n 2, 1) := by decide +kernel
theorem d_Law_law_250 : decode b_Law_law 250 = .ok (.aload_n 0, 1) := by decide +kernel
theorem d_Law_law_251 : decode b_Law_law 251 = .ok (.iload 4, 2) := by decide +kernel
theorem d_Law_law_253 : decode b_Law_law 253 = .ok (.iconst 1, 1) := by decide +kernel
theorem d_Law_law_254 : decode b_Law_law 254 = .ok (.iadd, 1) := by decide +kernel
theorem d_Law_law_255 : decode b_Law_law 255 = .ok (.iaload, 1) := by decide +kernel
theorem d_Law_law_256 : decode b_Law_law 256 = .ok (.invokevirtual 63, 3) := by decide +kernel
theorem d_Law_law_259 : decode b_Law_law 259 = .ok (.istore 6, 2) := by decide +kernel
theorem d_Law_law_261 : decode b_Law_law 261 = .ok (.aload_n 2, 1) := by decide +kernel
theorem d_Law_law_262 : decode b_Law_law 262 = .ok (.invokevirtual 64, 3) := by decide +kernel
theorem d_Law_law_265 : decode b_Law_law 265 = .ok (.iload 5, 2) := by decide +kernel
theorem d_Law_law_267 : decode b_Law_law 267 = .ok (.if_icmp .eq 5, 3) := by decide +kernel
theorem d_Law_law_270 : decode b_Law_law 270 = .ok (.iconst 0, 1) := by decide +kernel
theorem d_Law_law_271 : decode b_Law_law 271 = .ok (.ireturn, 1) := by decide +kernel
theorem d_Law_law_272 : decode b_Law_law 272 = .ok (.iload 5, 2) := by decide +kernel
theorem d_Law_law_274 : decode b_Law_law 274 = .ok (.ifCond .ne 15, 3) := by decide +kernel
theorem d_Law_law_277 : decode b_Law_law 277 = .ok (.aload_n 3, 1) := by decide +kernel
theorem d_Law_law_278 : decode b_Law_law 278 = .ok (.iconst 0, 1) := by decide +kernel
theorem d_Law_law_279 : decode b_Law_law 279 = .ok (.laload, 1) := by decide +kernel
theorem d_Law_law_280 : decode b_Law_law 280 = .ok (.iload 6, 2) := by decide +kernel
theorem d_Law_law_282 : decode b_Law_law 282 = .ok (.i2l, 1) := by decide +kernel
theorem d_Law_law_283 : decode b_Law_law 283 = .ok (.lcmp, 1) := by decide +kernel
theorem d_Law_law_284 : decode b_Law_law 284 = .ok (.ifCond .eq 5, 3) := by decide +kernel
theorem d_Law_law_287 : decode b_Law_law 287 = .ok (.iconst 0, 1) := by decide +kernel
theorem d_Law_law_288 : decode b_Law_law 288 = .ok (.ireturn, 1) := by decide +kernel
theorem d_Law_law_289 : decode b_Law_law 289 = .ok (.goto 785, 3) := by decide +kernel
theorem d_Law_law_292 : decode b_Law_law 292 = .ok (.aload_n 1, 1) := by decide +kernel
theorem d_Law_law_293 : decode b_Law_law 293 = .ok (.aload_n 0, 1) := by decide +kernel
theorem d_Law_law_294 : decode b_Law_law 294 = .ok (.iload 4, 2) := by decide +kernel
theorem d_Law_law_296 : decode b_Law_law 296 = .ok (.iconst 1, 1) := by decide +kernel
theorem d_Law_law_297 : decode b_Law_law 297 = .ok (.iadd, 1) := by decide +kernel
theorem d_Law_law_298 : decode b_Law_law 298 = .ok (.iaload, 1) := by decide +kernel
theorem d_Law_law_299 : decode b_Law_law 299 = .ok (.invokevirtual 67, 3) := by decide +kernel
theorem d_Law_law_302 : decode b_Law_law 302 = .ok (.aload_n 2, 1) := by decide +kernel
theorem d_Law_law_303 : decode b_Law_law 303 = .ok (.aload_n 0, 1) := by decide +kernel
theorem d_Law_law_304 : decode b_Law_law 304 = .ok (.iload 4, 2) := by decide +kernel
theorem d_Law_law_306 : decode b_Law_law 306 = .ok (.iconst 1, 1) := by decide +kernel
theorem d_Law_law_307 : decode b_Law_law 307 = .ok (.iadd, 1) := by decide +kernel
theorem d_Law_law_308 : decode b_Law_law 308 = .ok (.iaload, 1) := by decide +kernel
theorem d_Law_law_309 : decode b_Law_law 309 = .ok (.invokevirtual 70, 3) := by decide +kernel
theorem d_Law_law_312 : decode b_Law_law 312 = .ok (.if_icmp .eq 762, 3) := by decide +kernel
theorem d_Law_law_315 : decode b_Law_law 315 = .ok (.iconst 0, 1) := by decide +kernel
theorem d_Law_law_316 : decode b_Law_law 316 = .ok (.ireturn, 1) := by decide +kernel
theorem d_Law_law_317 : decode b_Law_law 317 = .ok (.aload_n 1, 1) := by decide +kernel
theorem d_Law_law_318 : decode b_Law_law 318 = .ok (.aload_n 0, 1) := by decide +kernel
theorem d_Law_law_319 : decode b_Law_law 319 = .ok (.iload 4, 2) := by decide +kernel
theorem d_Law_law_321 : decode b_Law_law 321 = .ok (.iconst 1, 1) := by decide +kernel
theorem d_Law_law_322 : decode b_Law_law 322 = .ok (.iadd, 1) := by decide +kernel
theorem d_Law_law_323 : decode b_Law_law 323 = .ok (.iaload, 1) := by decide +kernel
theorem d_Law_law_324 : decode b_Law_law 324 = .ok (.aload_n 0, 1) := by decide +kernel
theorem d_Law_law_325 : decode b_Law_law 325 = .ok (.iload 4, 2) := by decide +kernel
theorem d_Law_law_327 : decode b_Law_law 327 = .ok (.iconst 2, 1) := by decide +kernel
theorem d_Law_law_328 : decode b_Law_law 328 = .ok (.iadd, 1) := by decide +kernel
theorem d_Law_law_329 : decode b_Law_law 329 = .ok (.iaload, 1) := by decide +kernel
theorem d_Law_law_330 : decode b_Law_law 330 = .ok (.invokevirtual 71, 3) := by decide +kernel
theorem d_Law_law_333 : decode b_Law_law 333 = .ok (.aload_n 2, 1) := by decide +kernel
theorem d_Law_law_334 : decode b_Law_law 334 = .ok (.aload_n 0, 1) := by decide +kernel
theorem d_Law_law_335 : decode b_Law_law 335 = .ok (.iload 4, 2) := by decide +kernel
theorem d_Law_law_337 : decode b_Law_law 337 = .ok (.iconst 1, 1) := by decide +kernel
theorem d_Law_law_338 : decode b_Law_law 338 = .ok (.iadd, 1) := by decide +kernel
theorem d_Law_law_339 : decode b_Law_law 339 = .ok (.iaload, 1) := by decide +kernel
theorem d_Law_law_340 : decode b_Law_law 340 = .ok (.aload_n 0, 1) := by decide +kernel
theorem d_Law_law_341 : decode b_Law_law 341 = .ok (.iload 4, 2) := by decide +kernel
theorem d_Law_law_343 : decode b_Law_law 343 = .ok (.iconst 2, 1) := by decide +kernel
theorem d_Law_law_344 : decode b_Law_law 344 = .ok (.iadd, 1) := by decide +kernel
theorem d_Law_law_345 : decode b_Law_law 345 = .ok (.iaload, 1) := by decide +kernel
theorem d_Law_law_346 : decode b_Law_law 346 = .ok (.invokevirtual 74, 3) := by decide +kernel
theorem d_Law_law_349 : decode b_Law_law 349 = .ok (.if_icmp .eq 725, 3) := by decide +kernel
theorem d_Law_law_352 : decode b_Law_law 352 = .ok (.iconst 0, 1) := by decide +kernel
theorem d_Law_law_353 : decode b_Law_law 353 = .ok (.ireturn, 1) := by decide +kernel
theorem d_Law_law_354 : decode b_Law_law 354 = .ok (.aload_n 1, 1) := by decide +kernel
theorem d_Law_law_355 : decode b_Law_law 355 = .ok (.aload_n 0, 1) := by decide +kernel
theorem d_Law_law_356 : decode b_Law_law 356 = .ok (.iload 4, 2) := by decide +kernel
theorem d_Law_law_358 : decode b_Law_law 358 = .ok (.iconst 1, 1) := by decide +kernel
theorem d_Law_law_359 : decode b_Law_law 359 = .ok (.iadd, 1) := by decide +kernel
theorem d_Law_law_360 : decode b_Law_law 360 = .ok (.iaload, 1) := by decide +kernel
theorem d_Law_law_361 : decode b_Law_law 361 = .ok (.aload_n 0, 1) := by decide +kernel
theorem d_Law_law_362 : decode b_Law_law 362 = .ok (.iload 4, 2) := by decide +kernel
theorem d_Law_law_364 : decode b_Law_law 364 = .ok (.iconst 2, 1) := by decide +kernel
theorem d_Law_law_365 : decode b_Law_law 365 = .ok (.iadd, 1) := by decide +kernel
theorem d_Law_law_366 : decode b_Law_law 366 = .ok (.iaload, 1) := by decide +kernel
theorem d_Law_law_367 : decode b_Law_law 367 = .ok (.aload_n 0, 1) := by decide +kernel
theorem d_Law_law_368 : decode b_Law_law 368 = .ok (.iload 4, 2) := by decide +kernel
theorem d_Law_law_370 : decode b_Law_law 370 = .ok (.iconst 3, 1) := by decide +kernel
theorem d_Law_law_371 : decode b_Law_law 371 = .ok (.iadd, 1) := by decide +kernel
theorem d_Law_law_372 : decode b_Law_law 372 = .ok (.iaload, 1) := by decide +kernel
theorem d_Law_law_373 : decode b_Law_law 373 = .ok (.aload_n 0, 1) := by decide +kernel
theorem d_Law_law_374 : decode b_Law_law 374 = .ok (.iload 4, 2) := by decide +kernel
theorem d_Law_law_376 : decode b_Law_law 376 = .ok (.iconst 4, 1) := by decide +kernel
theorem d_Law_law_377 : decode b_Law_law 377 = .ok (.iadd, 1) := by decide +kernel
theorem d_Law_law_378 : decode b_Law_law 378 = .ok (.iaload, 1) := by decide +kernel
theorem d_Law_law_379 : decode b_Law_law 379 = .ok (.invokevirtual 75, 3) := by decide +kernel
theorem d_Law_law_382 : decode b_Law_law 382 = .ok (.aload_n 2, 1) := by decide +kernel
theorem d_Law_law_383 : decode b_Law_law 383 = .ok (.aload_n 0, 1) := by decide +kernel
theorem d_Law_law_384 : decode b_Law_law 384 = .ok (.iload 4, 2) := by decide +kernel
theorem d_Law_law_386 : decode b_Law_law 386 = .ok (.iconst 1, 1) := by decide +kernel
theorem d_Law_law_387 : decode b_Law_law 387 = .ok (.iadd, 1) := by decide +kernel
theorem d_Law_law_388 : decode b_Law_law 388 = .ok (.iaload, 1) := by decide +kernel
theorem d_Law_law_389 : decode b_Law_law 389 = .ok (.aload_n 0, 1) := by decide +kernel
theorem d_Law_law_390 : decode b_Law_law 390 = .ok (.iload 4, 2) := by decide +kernel
theorem d_Law_law_392 : decode b_Law_law 392 = .ok (.iconst 2, 1) := by decide +kernel
theorem d_Law_law_393 : decode b_Law_law 393 = .ok (.iadd, 1) := by decide +kernel
theorem d_Law_law_394 : decode b_Law_law 394 = .ok (.iaload, 1) := by decide +kernel
theorem d_Law_law_395 : decode b_Law_law 395 = .ok (.aload_n 0, 1) := by decide +kernel
theorem d_Law_law_396 : decode b_Law_law 396 = .ok (.iload 4, 2) := by decide +kernel
theorem d_Law_law_398 : decode b_Law_law 398 = .ok (.iconst 3, 1) := by decide +kernel
theorem d_Law_law_399 : decode b_Law_law 399 = .ok (.iadd, 1) := by decide +kernel
theorem d_Law_law_400 : decode b_Law_law 400 = .ok (.iaload, 1) := by decide +kernel
theorem d_Law_law_401 : decode b_Law_law 401 = .ok (.aload_n 0, 1) := by decide +kernel
theorem d_Law_law_402 : decode b_Law_law 402 = .ok (.iload 4, 2) := by decide +kernel
theorem d_Law_law_404 : decode b_Law_law 404 = .ok (.iconst 4, 1) := by decide +kernel
theorem d_Law_law_405 : decode b_Law_law 405 = .ok (.iadd, 1) := by decide +kernel
theorem d_Law_law_406 : decode b_Law_law 406 = .ok (.iaload, 1) := by decide +kernel
theorem d_Law_law_407 : decode b_Law_law 407 = .ok (.invokevirtual 79, 3) := by decide +kernel
theorem d_Law_law_410 : decode b_Law_law 410 = .ok (.if_icmp .eq 664, 3) := by decide +kernel
theorem d_Law_law_413 : decode b_Law_law 413 = .ok (.iconst 0, 1) := by decide +kernel
theorem d_Law_law_414 : decode b_Law_law 414 = .ok (.ireturn, 1) := by decide +kernel
theorem d_Law_law_415 : decode b_Law_law 415 = .ok (.aload_n 1, 1) := by decide +kernel
theorem d_Law_law_416 : decode b_Law_law 416 = .ok (.invokevirtual 80, 3) := by decide +kernel
theorem d_Law_law_419 : decode b_Law_law 419 = .ok (.aload_n 2, 1) := by decide +kernel
theorem d_Law_law_420 : decode b_Law_law 420 = .ok (.invokevirtual 83, 3) := by decide +kernel
theorem d_Law_law_423 : decode b_Law_law 423 = .ok (.goto 651, 3) := by decide +kernel
theorem d_Law_law_426 : decode b_Law_law 426 = .ok (.aload_n 1, 1) := by decide +kernel
theorem d_Law_law_427 : decode b_Law_law 427 = .ok (.aload_n 0, 1) := by decide +kernel
theorem d_Law_law_428 : decode b_Law_law 428 = .ok (.iload 4, 2) := by decide +kernel
theorem d_Law_law_430 : decode b_Law_law 430 = .ok (.iconst 1, 1) := by decide +kernel
theorem d_Law_law_431 : decode b_Law_law 431 = .ok (.iadd, 1) := by decide +kernel
theorem d_Law_law_432 : decode b_Law_law 432 = .ok (.iaload, 1) := by decide +kernel
theorem d_Law_law_433 : decode b_Law_law 433 = .ok (.invokevirtual 84, 3) := by decide +kernel
theorem d_Law_law_436 : decode b_Law_law 436 = .ok (.aload_n 2, 1) := by decide +kernel
theorem d_Law_law_437 : decode b_Law_law 437 = .ok (.aload_n 0, 1) := by decide +kernel
theorem d_Law_law_438 : decode b_Law_law 438 = .ok (.iload 4, 2) := by decide +kernel
theorem d_Law_law_440 : decode b_Law_law 440 = .ok (.iconst 1, 1) := by decide +kernel
theorem d_Law_law_441 : decode b_Law_law 441 = .ok (.iadd, 1) := by decide +kernel
theorem d_Law_law_442 : decode b_Law_law 442 = .ok (.iaload, 1) := by decide +kernel
theorem d_Law_law_443 : decode b_Law_law 443 = .ok (.invokevirtual 87, 3) := by decide +kernel
theorem d_Law_law_446 : decode b_Law_law 446 = .ok (.if_icmp .eq 628, 3) := by decide +kernel
theorem d_Law_law_449 : decode b_Law_law 449 = .ok (.iconst 0, 1) := by decide +kernel
theorem d_Law_law_450 : decode b_Law_law 450 = .ok (.ireturn, 1) := by decide +kernel
theorem d_Law_law_451 : decode b_Law_law 451 = .ok (.aload_n 1, 1) := by decide +kernel
theorem d_Law_law_452 : decode b_Law_law 452 = .ok (.aload_n 0, 1) := by decide +kernel
theorem d_Law_law_453 : decode b_Law_law 453 = .ok (.iload 4, 2) := by decide +kernel
theorem d_Law_law_455 : decode b_Law_law 455 = .ok (.iconst 1, 1) := by decide +kernel
theorem d_Law_law_456 : decode b_Law_law 456 = .ok (.iadd, 1) := by decide +kernel
theorem d_Law_law_457 : decode b_Law_law 457 = .ok (.iaload, 1) := by decide +kernel
theorem d_Law_law_458 : decode b_Law_law 458 = .ok (.aload_n 0, 1) := by decide +kernel
theorem d_Law_law_459 : decode b_Law_law 459 = .ok (.iload 4, 2) := by decide +kernel
theorem d_Law_law_461 : decode b_Law_law 461 = .ok (.iconst 2, 1) := by decide +kernel
theorem d_Law_law_462 : decode b_Law_law 462 = .ok (.iadd, 1) := by decide +kernel
theorem d_Law_law_463 : decode b_Law_law 463 = .ok (.iaload, 1) := by decide +kernel
theorem d_Law_law_464 : decode b_Law_law 464 = .ok (.aload_n 0, 1) := by decide +kernel
theorem d_Law_law_465 : decode b_Law_law 465 = .ok (.iload 4, 2) := by decide +kernel
theorem d_Law_law_467 : decode b_Law_law 467 = .ok (.iconst 3, 1) := by decide +kernel
theorem d_Law_law_468 : decode b_Law_law 468 = .ok (.iadd, 1) := by decide +kernel
theorem d_Law_law_469 : decode b_Law_law 469 = .ok (.iaload, 1) := by decide +kernel
theorem d_Law_law_470 : decode b_Law_law 470 = .ok (.invokevirtual 88, 3) := by decide +kernel
theorem d_Law_law_473 : decode b_Law_law 473 = .ok (.aload_n 2, 1) := by decide +kernel
theorem d_Law_law_474 : decode b_Law_law 474 = .ok (.aload_n 0, 1) := by decide +kernel
theorem d_Law_law_475 : decode b_Law_law 475 = .ok (.iload 4, 2) := by decide +kernel
theorem d_Law_law_477 : decode b_Law_law 477 = .ok (.iconst 1, 1) := by decide +kernel
theorem d_Law_law_478 : decode b_Law_law 478 = .ok (.iadd, 1) := by decide +kernel
theorem d_Law_law_479 : decode b_Law_law 479 = .ok (.iaload, 1) := by decide +kernel
theorem d_Law_law_480 : decode b_Law_law 480 = .ok (.aload_n 0, 1) := by decide +kernel
theorem d_Law_law_481 : decode b_Law_law 481 = .ok (.iload 4, 2) := by decide +kernel
theorem d_Law_law_483 : decode b_Law_law 483 = .ok (.iconst 2, 1) := by decide +kernel
theorem d_Law_law_484 : decode b_Law_law 484 = .ok (.iadd, 1) := by decide +kernel
theorem d_Law_law_485 : decode b_Law_law 485 = .ok (.iaload, 1) := by decide +kernel
theorem d_Law_law_486 : decode b_Law_law 486 = .ok (.aload_n 0, 1) := by decide +kernel
theorem d_Law_law_487 : decode b_Law_law 487 = .ok (.iload 4, 2) := by decide +kernel
theorem d_Law_law_489 : decode b_Law_law 489 = .ok (.iconst 3, 1) := by decide +kernel
theorem d_Law_law_490 : decode b_Law_law 490 = .ok (.iadd, 1) := by decide +kernel
theorem d_Law_law_491 : decode b_Law_law 491 = .ok (.iaload, 1) := by decide +kernel
theorem d_Law_law_492 : decode b_Law_law 492 = .ok (.invokevirtual 92, 3) := by decide +kernel
theorem d_Law_law_495 : decode b_Law_law 495 = .ok (.if_icmp .eq 579, 3) := by decide +kernel
theorem d_Law_law_498 : decode b_Law_law 498 = .ok (.iconst 0, 1) := by decide +kernel
theorem d_Law_law_499 : decode b_Law_law 499 = .ok (.ireturn, 1) := by decide +kernel
theorem d_Law_law_500 : decode b_Law_law 500 = .ok (.aload_n 1, 1) := by decide +kernel
theorem d_Law_law_501 : decode b_Law_law 501 = .ok (.aload_n 0, 1) := by decide +kernel
theorem d_Law_law_502 : decode b_Law_law 502 = .ok (.iload 4, 2) := by decide +kernel
theorem d_Law_law_504 : decode b_Law_law 504 = .ok (.iconst 1, 1) := by decide +kernel
theorem d_Law_law_505 : decode b_Law_law 505 = .ok (.iadd, 1) := by decide +kernel
theorem d_Law_law_506 : decode b_Law_law 506 = .ok (.iaload, 1) := by decide +kernel
theorem d_Law_law_507 : decode b_Law_law 507 = .ok (.invokevirtual 93, 3) := by decide +kernel
theorem d_Law_law_510 : decode b_Law_law 510 = .ok (.aload_n 2, 1) := by decide +kernel
theorem d_Law_law_511 : decode b_Law_law 511 = .ok (.aload_n 0, 1) := by decide +kernel
theorem d_Law_law_512 : decode b_Law_law 512 = .ok (.iload 4, 2) := by decide +kernel
theorem d_Law_law_514 : decode b_Law_law 514 = .ok (.iconst 1, 1) := by decide +kernel
theorem d_Law_law_515 : decode b_Law_law 515 = .ok (.iadd, 1) := by decide +kernel
theorem d_Law_law_516 : decode b_Law_law 516 = .ok (.iaload, 1) := by decide +kernel
theorem d_Law_law_517 : decode b_Law_law 517 = .ok (.invokevirtual 96, 3) := by decide +kernel
theorem d_Law_law_520 : decode b_Law_law 520 = .ok (.if_icmp .eq 554, 3) := by decide +kernel
theorem d_Law_law_523 : decode b_Law_law 523 = .ok (.iconst 0, 1) := by decide +kernel
theorem d_Law_law_524 : decode b_Law_law 524 = .ok (.ireturn, 1) := by decide +kernel
theorem d_Law_law_525 : decode b_Law_law 525 = .ok (.aload_n 1, 1) := by decide +kernel
theorem d_Law_law_526 : decode b_Law_law 526 = .ok (.aload_n 3, 1) := by decide +kernel
theorem d_Law_law_527 : decode b_Law_law 527 = .ok (.invokestatic 97, 3) := by decide +kernel
theorem d_Law_law_530 : decode b_Law_law 530 = .ok (.istore 5, 2) := by decide +kernel
theorem d_Law_law_532 : decode b_Law_law 532 = .ok (.aload_n 2, 1) := by decide +kernel
theorem d_Law_law_533 : decode b_Law_law 533 = .ok (.invokevirtual 100, 3) := by decide +kernel
theorem d_Law_law_536 : decode b_Law_law 536 = .ok (.istore 6, 2) := by decide +kernel
theorem d_Law_law_538 : decode b_Law_law 538 = .ok (.aload_n 2, 1) := by decide +kernel
theorem d_Law_law_539 : decode b_Law_law 539 = .ok (.invokevirtual 64, 3) := by decide +kernel
theorem d_Law_law_542 : decode b_Law_law 542 = .ok (.iload 5, 2) := by decide +kernel
theorem d_Law_law_544 : decode b_Law_law 544 = .ok (.if_icmp .eq 5, 3) := by decide +kernel
theorem d_Law_law_547 : decode b_Law_law 547 = .ok (.iconst 0, 1) := by decide +kernel
theorem d_Law_law_548 : decode b_Law_law 548 = .ok (.ireturn, 1) := by decide +kernel
theorem d_Law_law_549 : decode b_Law_law 549 = .ok (.iload 5, 2) := by decide +kernel
theorem d_Law_law_551 : decode b_Law_law 551 = .ok (.ifCond .ne 15, 3) := by decide +kernel
theorem d_Law_law_554 : decode b_Law_law 554 = .ok (.aload_n 3, 1) := by decide +kernel
theorem d_Law_law_555 : decode b_Law_law 555 = .ok (.iconst 0, 1) := by decide +kernel
theorem d_Law_law_556 : decode b_Law_law 556 = .ok (.laload, 1) := by decide +kernel
theorem d_Law_law_557 : decode b_Law_law 557 = .ok (.iload 6, 2) := by decide +kernel
theorem d_Law_law_559 : decode b_Law_law 559 = .ok (.i2l, 1) := by decide +kernel
theorem d_Law_law_560 : decode b_Law_law 560 = .ok (.lcmp, 1) := by decide +kernel
theorem d_Law_law_561 : decode b_Law_law 561 = .ok (.ifCond .eq 5, 3) := by decide +kernel
theorem d_Law_law_564 : decode b_Law_law 564 = .ok (.iconst 0, 1) := by decide +kernel
theorem d_Law_law_565 : decode b_Law_law 565 = .ok (.ireturn, 1) := by decide +kernel
theorem d_Law_law_566 : decode b_Law_law 566 = .ok (.goto 508, 3) := by decide +kernel
theorem d_Law_law_569 : decode b_Law_law 569 = .ok (.aload_n 1, 1) := by decide +kernel
theorem d_Law_law_570 : decode b_Law_law 570 = .ok (.aload_n 3, 1) := by decide +kernel
theorem d_Law_law_571 : decode b_Law_law 571 = .ok (.invokestatic 101, 3) := by decide +kernel
theorem d_Law_law_574 : decode b_Law_law 574 = .ok (.istore 5, 2) := by decide +kernel
theorem d_Law_law_576 : decode b_Law_law 576 = .ok (.aload_n 2, 1) := by decide +kernel
theorem d_Law_law_577 : decode b_Law_law 577 = .ok (.invokevirtual 103, 3) := by decide +kernel
theorem d_Law_law_580 : decode b_Law_law 580 = .ok (.istore 6, 2) := by decide +kernel
theorem d_Law_law_582 : decode b_Law_law 582 = .ok (.aload_n 2, 1) := by decide +kernel
theorem d_Law_law_583 : decode b_Law_law 583 = .ok (.invokevirtual 64, 3) := by decide +kernel
theorem d_Law_law_586 : decode b_Law_law 586 = .ok (.iload 5, 2) := by decide +kernel
theorem d_Law_law_588 : decode b_Law_law 588 = .ok (.if_icmp .eq 5, 3) := by decide +kernel
theorem d_Law_law_591 : decode b_Law_law 591 = .ok (.iconst 0, 1) := by decide +kernel
theorem d_Law_law_592 : decode b_Law_law 592 = .ok (.ireturn, 1) := by decide +kernel
theorem d_Law_law_593 : decode b_Law_law 593 = .ok (.iload 5, 2) := by decide +kernel
theorem d_Law_law_595 : decode b_Law_law 595 = .ok (.ifCond .ne 15, 3) := by decide +kernel
theorem d_Law_law_598 : decode b_Law_law 598 = .ok (.aload_n 3, 1) := by decide +kernel
theorem d_Law_law_599 : decode b_Law_law 599 = .ok (.iconst 0, 1) := by decide +kernel
theorem d_Law_law_600 : decode b_Law_law 600 = .ok (.laload, 1) := by decide +kernel
theorem d_Law_law_601 : decode b_Law_law 601 = .ok (.iload 6, 2) := by decide +kernel
theorem d_Law_law_603 : decode b_Law_law 603 = .ok (.i2l, 1) := by decide +kernel
theorem d_Law_law_604 : decode b_Law_law 604 = .ok (.lcmp, 1) := by decide +kernel
theorem d_Law_law_605 : decode b_Law_law 605 = .ok (.ifCond .eq 5, 3) := by decide +kernel
theorem d_Law_law_608 : decode b_Law_law 608 = .ok (.iconst 0, 1) := by decide +kernel
theorem d_Law_law_609 : decode b_Law_law 609 = .ok (.ireturn, 1) := by decide +kernel
theorem d_Law_law_610 : decode b_Law_law 610 = .ok (.goto 464, 3) := by decide +kernel
theorem d_Law_law_613 : decode b_Law_law 613 = .ok (.aload_n 1, 1) := by decide +kernel
theorem d_Law_law_614 : decode b_Law_law 614 = .ok (.aload_n 0, 1) := by decide +kernel
theorem d_Law_law_615 : decode b_Law_law 615 = .ok (.iload 4, 2) := by decide +kernel
theorem d_Law_law_617 : decode b_Law_law 617 = .ok (.iconst 1, 1) := by decide +kernel
theorem d_Law_law_618 : decode b_Law_law 618 = .ok (.iadd, 1) := by decide +kernel
theorem d_Law_law_619 : decode b_Law_law 619 = .ok (.iaload, 1) := by decide +kernel
theorem d_Law_law_620 : decode b_Law_law 620 = .ok (.invokevirtual 104, 3) := by decide +kernel
theorem d_Law_law_623 : decode b_Law_law 623 = .ok (.aload_n 2, 1) := by decide +kernel
theorem d_Law_law_624 : decode b_Law_law 624 = .ok (.aload_n 0, 1) := by decide +kernel
theorem d_Law_law_625 : decode b_Law_law 625 = .ok (.iload 4, 2) := by decide +kernel
theorem d_Law_law_627 : decode b_Law_law 627 = .ok (.iconst 1, 1) := by decide +kernel
theorem d_Law_law_628 : decode b_Law_law 628 = .ok (.iadd, 1) := by decide +kernel
theorem d_Law_law_629 : decode b_Law_law 629 = .ok (.iaload, 1) := by decide +kernel
theorem d_Law_law_630 : decode b_Law_law 630 = .ok (.invokevirtual 107, 3) := by decide +kernel
theorem d_Law_law_633 : decode b_Law_law 633 = .ok (.if_icmp .eq 441, 3) := by decide +kernel
theorem d_Law_law_636 : decode b_Law_law 636 = .ok (.iconst 0, 1) := by decide +kernel
theorem d_Law_law_637 : decode b_Law_law 637 = .ok (.ireturn, 1) := by decide +kernel
theorem d_Law_law_638 : decode b_Law_law 638 = .ok (.aload_n 1, 1) := by decide +kernel
theorem d_Law_law_639 : decode b_Law_law 639 = .ok (.invokevirtual 108, 3) := by decide +kernel
theorem d_Law_law_642 : decode b_Law_law 642 = .ok (.aload_n 2, 1) := by decide +kernel
theorem d_Law_law_643 : decode b_Law_law 643 = .ok (.invokevirtual 111, 3) := by decide +kernel
theorem d_Law_law_646 : decode b_Law_law 646 = .ok (.if_icmp .eq 428, 3) := by decide +kernel
theorem d_Law_law_649 : decode b_Law_law 649 = .ok (.iconst 0, 1) := by decide +kernel
theorem d_Law_law_650 : decode b_Law_law 650 = .ok (.ireturn, 1) := by decide +kernel
theorem d_Law_law_651 : decode b_Law_law 651 = .ok (.aload_n 1, 1) := by decide +kernel
theorem d_Law_law_652 : decode b_Law_law 652 = .ok (.aload_n 0, 1) := by decide +kernel
theorem d_Law_law_653 : decode b_Law_law 653 = .ok (.iload 4, 2) := by decide +kernel
theorem d_Law_law_655 : decode b_Law_law 655 = .ok (.iconst 1, 1) := by decide +kernel
theorem d_Law_law_656 : decode b_Law_law 656 = .ok (.iadd, 1) := by decide +kernel
theorem d_Law_law_657 : decode b_Law_law 657 = .ok (.iaload, 1) := by decide +kernel
theorem d_Law_law_658 : decode b_Law_law 658 = .ok (.aload_n 3, 1) := by decide +kernel
theorem d_Law_law_659 : decode b_Law_law 659 = .ok (.invokestatic 112, 3) := by decide +kernel
theorem d_Law_law_662 : decode b_Law_law 662 = .ok (.istore 5, 2) := by decide +kernel
theorem d_Law_law_664 : decode b_Law_law 664 = .ok (.aload_n 2, 1) := by decide +kernel
theorem d_Law_law_665 : decode b_Law_law 665 = .ok (.aload_n 0, 1) := by decide +kernel
theorem d_Law_law_666 : decode b_Law_law 666 = .ok (.iload 4, 2) := by decide +kernel
theorem d_Law_law_668 : decode b_Law_law 668 = .ok (.iconst 1, 1) := by decide +kernel
theorem d_Law_law_669 : decode b_Law_law 669 = .ok (.iadd, 1) := by decide +kernel
theorem d_Law_law_670 : decode b_Law_law 670 = .ok (.iaload, 1) := by decide +kernel
theorem d_Law_law_671 : decode b_Law_law 671 = .ok (.invokevirtual 114, 3) := by decide +kernel
theorem d_Law_law_674 : decode b_Law_law 674 = .ok (.istore 6, 2) := by decide +kernel
theorem d_Law_law_676 : decode b_Law_law 676 = .ok (.aload_n 2, 1) := by decide +kernel
theorem d_Law_law_677 : decode b_Law_law 677 = .ok (.invokevirtual 64, 3) := by decide +kernel
theorem d_Law_law_680 : decode b_Law_law 680 = .ok (.iload 5, 2) := by decide +kernel
theorem d_Law_law_682 : decode b_Law_law 682 = .ok (.if_icmp .eq 5, 3) := by decide +kernel
theorem d_Law_law_685 : decode b_Law_law 685 = .ok (.iconst 0, 1) := by decide +kernel
theorem d_Law_law_686 : decode b_Law_law 686 = .ok (.ireturn, 1) := by decide +kernel
theorem d_Law_law_687 : decode b_Law_law 687 = .ok (.iload 5, 2) := by decide +kernel
theorem d_Law_law_689 : decode b_Law_law 689 = .ok (.ifCond .ne 15, 3) := by decide +kernel
theorem d_Law_law_692 : decode b_Law_law 692 = .ok (.aload_n 3, 1) := by decide +kernel
theorem d_Law_law_693 : decode b_Law_law 693 = .ok (.iconst 0, 1) := by decide +kernel
theorem d_Law_law_694 : decode b_Law_law 694 = .ok (.laload, 1) := by decide +kernel
theorem d_Law_law_695 : decode b_Law_law 695 = .ok (.iload 6, 2) := by decide +kernel
theorem d_Law_law_697 : decode b_Law_law 697 = .ok (.i2l, 1) := by decide +kernel
theorem d_Law_law_698 : decode b_Law_law 698 = .ok (.lcmp, 1) := by decide +kernel
theorem d_Law_law_699 : decode b_Law_law 699 = .ok (.ifCond .eq 5, 3) := by decide +kernel
theorem d_Law_law_702 : decode b_Law_law 702 = .ok (.iconst 0, 1) := by decide +kernel
theorem d_Law_law_703 : decode b_Law_law 703 = .ok (.ireturn, 1) := by decide +kernel
theorem d_Law_law_704 : decode b_Law_law 704 = .ok (.goto 370, 3) := by decide +kernel
theorem d_Law_law_707 : decode b_Law_law 707 = .ok (.aload_n 1, 1) := by decide +kernel
theorem d_Law_law_708 : decode b_Law_law 708 = .ok (.aload_n 0, 1) := by decide +kernel
theorem d_Law_law_709 : decode b_Law_law 709 = .ok (.iload 4, 2) := by decide +kernel
theorem d_Law_law_711 : decode b_Law_law 711 = .ok (.iconst 1, 1) := by decide +kernel
theorem d_Law_law_712 : decode b_Law_law 712 = .ok (.iadd, 1) := by decide +kernel
theorem d_Law_law_713 : decode b_Law_law 713 = .ok (.iaload, 1) := by decide +kernel
theorem d_Law_law_714 : decode b_Law_law 714 = .ok (.aload_n 3, 1) := by decide +kernel
theorem d_Law_law_715 : decode b_Law_law 715 = .ok (.invokestatic 115, 3) := by decide +kernel
theorem d_Law_law_718 : decode b_Law_law 718 = .ok (.istore 5, 2) := by decide +kernel
theorem d_Law_law_720 : decode b_Law_law 720 = .ok (.aload_n 2, 1) := by decide +kernel
theorem d_Law_law_721 : decode b_Law_law 721 = .ok (.aload_n 0, 1) := by decide +kernel
theorem d_Law_law_722 : decode b_Law_law 722 = .ok (.iload 4, 2) := by decide +kernel
theorem d_Law_law_724 : decode b_Law_law 724 = .ok (.iconst 1, 1) := by decide +kernel
theorem d_Law_law_725 : decode b_Law_law 725 = .ok (.iadd, 1) := by decide +kernel
theorem d_Law_law_726 : decode b_Law_law 726 = .ok (.iaload, 1) := by decide +kernel
theorem d_Law_law_727 : decode b_Law_law 727 = .ok (.invokevirtual 117, 3) := by decide +kernel
theorem d_Law_law_730 : decode b_Law_law 730 = .ok (.istore 6, 2) := by decide +kernel
theorem d_Law_law_732 : decode b_Law_law 732 = .ok (.aload_n 2, 1) := by decide +kernel
theorem d_Law_law_733 : decode b_Law_law 733 = .ok (.invokevirtual 64, 3) := by decide +kernel
theorem d_Law_law_736 : decode b_Law_law 736 = .ok (.iload 5, 2) := by decide +kernel
theorem d_Law_law_738 : decode b_Law_law 738 = .ok (.if_icmp .eq 5, 3) := by decide +kernel
theorem d_Law_law_741 : decode b_Law_law 741 = .ok (.iconst 0, 1) := by decide +kernel
theorem d_Law_law_742 : decode b_Law_law 742 = .ok (.ireturn, 1) := by decide +kernel
theorem d_Law_law_743 : decode b_Law_law 743 = .ok (.iload 5, 2) := by decide +kernel
theorem d_Law_law_745 : decode b_Law_law 745 = .ok (.ifCond .ne 22, 3) := by decide +kernel
theorem d_Law_law_748 : decode b_Law_law 748 = .ok (.aload_n 3, 1) := by decide +kernel
theorem d_Law_law_749 : decode b_Law_law 749 = .ok (.iconst 0, 1) := by decide +kernel
theorem d_Law_law_750 : decode b_Law_law 750 = .ok (.laload, 1) := by decide +kernel
theorem d_Law_law_751 : decode b_Law_law 751 = .ok (.iload 6, 2) := by decide +kernel
theorem d_Law_law_753 : decode b_Law_law 753 = .ok (.ifCond .eq 7, 3) := by decide +kernel
theorem d_Law_law_756 : decode b_Law_law 756 = .ok (.lconst 1, 1) := by decide +kernel
theorem d_Law_law_757 : decode b_Law_law 757 = .ok (.goto 4, 3) := by decide +kernel
theorem d_Law_law_760 : decode b_Law_law 760 = .ok (.lconst 0, 1) := by decide +kernel
theorem d_Law_law_761 : decode b_Law_law 761 = .ok (.lcmp, 1) := by decide +kernel
theorem d_Law_law_762 : decode b_Law_law 762 = .ok (.ifCond .eq 5, 3) := by decide +kernel
theorem d_Law_law_765 : decode b_Law_law 765 = .ok (.iconst 0, 1) := by decide +kernel
theorem d_Law_law_766 : decode b_Law_law 766 = .ok (.ireturn, 1) := by decide +kernel
theorem d_Law_law_767 : decode b_Law_law 767 = .ok (.goto 307, 3) := by decide +kernel
theorem d_Law_law_770 : decode b_Law_law 770 = .ok (.aload_n 1, 1) := by decide +kernel
theorem d_Law_law_771 : decode b_Law_law 771 = .ok (.aload_n 0, 1) := by decide +kernel
theorem d_Law_law_772 : decode b_Law_law 772 = .ok (.iload 4, 2) := by decide +kernel
theorem d_Law_law_774 : decode b_Law_law 774 = .ok (.iconst 1, 1) := by decide +kernel
theorem d_Law_law_775 : decode b_Law_law 775 = .ok (.iadd, 1) := by decide +kernel
theorem d_Law_law_776 : decode b_Law_law 776 = .ok (.iaload, 1) := by decide +kernel
theorem d_Law_law_777 : decode b_Law_law 777 = .ok (.aload_n 3, 1) := by decide +kernel
theorem d_Law_law_778 : decode b_Law_law 778 = .ok (.invokestatic 118, 3) := by decide +kernel
theorem d_Law_law_781 : decode b_Law_law 781 = .ok (.istore 5, 2) := by decide +kernel
theorem d_Law_law_783 : decode b_Law_law 783 = .ok (.aload_n 2, 1) := by decide +kernel
theorem d_Law_law_784 : decode b_Law_law 784 = .ok (.aload_n 0, 1) := by decide +kernel
theorem d_Law_law_785 : decode b_Law_law 785 = .ok (.iload 4, 2) := by decide +kernel
theorem d_Law_law_787 : decode b_Law_law 787 = .ok (.iconst 1, 1) := by decide +kernel
theorem d_Law_law_788 : decode b_Law_law 788 = .ok (.iadd, 1) := by decide +kernel
theorem d_Law_law_789 : decode b_Law_law 789 = .ok (.iaload, 1) := by decide +kernel
theorem d_Law_law_790 : decode b_Law_law 790 = .ok (.invokevirtual 120, 3) := by decide +kernel
theorem d_Law_law_793 : decode b_Law_law 793 = .ok (.istore 6, 2) := by decide +kernel
theorem d_Law_law_795 : decode b_Law_law 795 = .ok (.aload_n 2, 1) := by decide +kernel
theorem d_Law_law_796 : decode b_Law_law 796 = .ok (.invokevirtual 64, 3) := by decide +kernel
theorem d_Law_law_799 : decode b_Law_law 799 = .ok (.iload 5, 2) := by decide +kernel
theorem d_Law_law_801 : decode b_Law_law 801 = .ok (.if_icmp .eq 5, 3) := by decide +kernel
theorem d_Law_law_804 : decode b_Law_law 804 = .ok (.iconst 0, 1) := by decide +kernel
theorem d_Law_law_805 : decode b_Law_law 805 = .ok (.ireturn, 1) := by decide +kernel
theorem d_Law_law_806 : decode b_Law_law 806 = .ok (.iload 5, 2) := by decide +kernel
theorem d_Law_law_808 : decode b_Law_law 808 = .ok (.ifCond .ne 15, 3) := by decide +kernel
theorem d_Law_law_811 : decode b_Law_law 811 = .ok (.aload_n 3, 1) := by decide +kernel
theorem d_Law_law_812 : decode b_Law_law 812 = .ok (.iconst 0, 1) := by decide +kernel
theorem d_Law_law_813 : decode b_Law_law 813 = .ok (.laload, 1) := by decide +kernel
theorem d_Law_law_814 : decode b_Law_law 814 = .ok (.iload 6, 2) := by decide +kernel
theorem d_Law_law_816 : decode b_Law_law 816 = .ok (.i2l, 1) := by decide +kernel
theorem d_Law_law_817 : decode b_Law_law 817 = .ok (.lcmp, 1) := by decide +kernel
theorem d_Law_law_818 : decode b_Law_law 818 = .ok (.ifCond .eq 5, 3) := by decide +kernel
theorem d_Law_law_821 : decode b_Law_law 821 = .ok (.iconst 0, 1) := by decide +kernel
theorem d_Law_law_822 : decode b_Law_law 822 = .ok (.ireturn, 1) := by decide +kernel
theorem d_Law_law_823 : decode b_Law_law 823 = .ok (.goto 251, 3) := by decide +kernel
theorem d_Law_law_826 : decode b_Law_law 826 = .ok (.aload_n 1, 1) := by decide +kernel
theorem d_Law_law_827 : decode b_Law_law 827 = .ok (.aload_n 0, 1) := by decide +kernel
theorem d_Law_law_828 : decode b_Law_law 828 = .ok (.iload 4, 2) := by decide +kernel
theorem d_Law_law_830 : decode b_Law_law 830 = .ok (.iconst 1, 1) := by decide +kernel
theorem d_Law_law_831 : decode b_Law_law 831 = .ok (.iadd, 1) := by decide +kernel
theorem d_Law_law_832 : decode b_Law_law 832 = .ok (.iaload, 1) := by decide +kernel
theorem d_Law_law_833 : decode b_Law_law 833 = .ok (.aload_n 0, 1) := by decide +kernel
theorem d_Law_law_834 : decode b_Law_law 834 = .ok (.iload 4, 2) := by decide +kernel
theorem d_Law_law_836 : decode b_Law_law 836 = .ok (.iconst 2, 1) := by decide +kernel
theorem d_Law_law_837 : decode b_Law_law 837 = .ok (.iadd, 1) := by decide +kernel
theorem d_Law_law_838 : decode b_Law_law 838 = .ok (.iaload, 1) := by decide +kernel
theorem d_Law_law_839 : decode b_Law_law 839 = .ok (.aload_n 3, 1) := by decide +kernel
theorem d_Law_law_840 : decode b_Law_law 840 = .ok (.invokestatic 121, 3) := by decide +kernel
theorem d_Law_law_843 : decode b_Law_law 843 = .ok (.istore 5, 2) := by decide +kernel
theorem d_Law_law_845 : decode b_Law_law 845 = .ok (.aload_n 2, 1) := by decide +kernel
theorem d_Law_law_846 : decode b_Law_law 846 = .ok (.aload_n 0, 1) := by decide +kernel
theorem d_Law_law_847 : decode b_Law_law 847 = .ok (.iload 4, 2) := by decide +kernel
theorem d_Law_law_849 : decode b_Law_law 849 = .ok (.iconst 1, 1) := by decide +kernel
theorem d_Law_law_850 : decode b_Law_law 850 = .ok (.iadd, 1) := by decide +kernel
theorem d_Law_law_851 : decode b_Law_law 851 = .ok (.iaload, 1) := by decide +kernel
theorem d_Law_law_852 : decode b_Law_law 852 = .ok (.aload_n 0, 1) := by decide +kernel
theorem d_Law_law_853 : decode b_Law_law 853 = .ok (.iload 4, 2) := by decide +kernel
theorem d_Law_law_855 : decode b_Law_law 855 = .ok (.iconst 2, 1) := by decide +kernel
theorem d_Law_law_856 : decode b_Law_law 856 = .ok (.iadd, 1) := by decide +kernel
theorem d_Law_law_857 : decode b_Law_law 857 = .ok (.iaload, 1) := by decide +kernel
theorem d_Law_law_858 : decode b_Law_law 858 = .ok (.invokevirtual 124, 3) := by decide +kernel
theorem d_Law_law_861 : decode b_Law_law 861 = .ok (.istore 6, 2) := by decide +kernel
theorem d_Law_law_863 : decode b_Law_law 863 = .ok (.aload_n 2, 1) := by decide +kernel
theorem d_Law_law_864 : decode b_Law_law 864 = .ok (.invokevirtual 64, 3) := by decide +kernel
theorem d_Law_law_867 : decode b_Law_law 867 = .ok (.iload 5, 2) := by decide +kernel
theorem d_Law_law_869 : decode b_Law_law 869 = .ok (.if_icmp .eq 5, 3) := by decide +kernel
theorem d_Law_law_872 : decode b_Law_law 872 = .ok (.iconst 0, 1) := by decide +kernel
theorem d_Law_law_873 : decode b_Law_law 873 = .ok (.ireturn, 1) := by decide +kernel
theorem d_Law_law_874 : decode b_Law_law 874 = .ok (.iload 5, 2) := by decide +kernel
theorem d_Law_law_876 : decode b_Law_law 876 = .ok (.ifCond .ne 15, 3) := by decide +kernel
theorem d_Law_law_879 : decode b_Law_law 879 = .ok (.aload_n 3, 1) := by decide +kernel
theorem d_Law_law_880 : decode b_Law_law 880 = .ok (.iconst 0, 1) := by decide +kernel
theorem d_Law_law_881 : decode b_Law_law 881 = .ok (.laload, 1) := by decide +kernel
theorem d_Law_law_882 : decode b_Law_law 882 = .ok (.iload 6, 2) := by decide +kernel
theorem d_Law_law_884 : decode b_Law_law 884 = .ok (.i2l, 1) := by decide +kernel
theorem d_Law_law_885 : decode b_Law_law 885 = .ok (.lcmp, 1) := by decide +kernel
theorem d_Law_law_886 : decode b_Law_law 886 = .ok (.ifCond .eq 5, 3) := by decide +kernel
theorem d_Law_law_889 : decode b_Law_law 889 = .ok (.iconst 0, 1) := by decide +kernel
theorem d_Law_law_890 : decode b_Law_law 890 = .ok (.ireturn, 1) := by decide +kernel
theorem d_Law_law_891 : decode b_Law_law 891 = .ok (.goto 183, 3) := by decide +kernel
theorem d_Law_law_894 : decode b_Law_law 894 = .ok (.aload_n 1, 1) := by decide +kernel
theorem d_Law_law_895 : decode b_Law_law 895 = .ok (.aload_n 0, 1) := by decide +kernel
theorem d_Law_law_896 : decode b_Law_law 896 = .ok (.iload 4, 2) := by decide +kernel
theorem d_Law_law_898 : decode b_Law_law 898 = .ok (.iconst 1, 1) := by decide +kernel
theorem d_Law_law_899 : decode b_Law_law 899 = .ok (.iadd, 1) := by decide +kernel
theorem d_Law_law_900 : decode b_Law_law 900 = .ok (.iaload, 1) := by decide +kernel
theorem d_Law_law_901 : decode b_Law_law 901 = .ok (.aload_n 0, 1) := by decide +kernel
theorem d_Law_law_902 : decode b_Law_law 902 = .ok (.iload 4, 2) := by decide +kernel
theorem d_Law_law_904 : decode b_Law_law 904 = .ok (.iconst 2, 1) := by decide +kernel
theorem d_Law_law_905 : decode b_Law_law 905 = .ok (.iadd, 1) := by decide +kernel
theorem d_Law_law_906 : decode b_Law_law 906 = .ok (.iaload, 1) := by decide +kernel
theorem d_Law_law_907 : decode b_Law_law 907 = .ok (.aload_n 0, 1) := by decide +kernel
theorem d_Law_law_908 : decode b_Law_law 908 = .ok (.iload 4, 2) := by decide +kernel
theorem d_Law_law_910 : decode b_Law_law 910 = .ok (.iconst 3, 1) := by decide +kernel
theorem d_Law_law_911 : decode b_Law_law 911 = .ok (.iadd, 1) := by decide +kernel
theorem d_Law_law_912 : decode b_Law_law 912 = .ok (.iaload, 1) := by decide +kernel
theorem d_Law_law_913 : decode b_Law_law 913 = .ok (.aload_n 0, 1) := by decide +kernel
theorem d_Law_law_914 : decode b_Law_law 914 = .ok (.iload 4, 2) := by decide +kernel
theorem d_Law_law_916 : decode b_Law_law 916 = .ok (.iconst 4, 1) := by decide +kernel
theorem d_Law_law_917 : decode b_Law_law 917 = .ok (.iadd, 1) := by decide +kernel
theorem d_Law_law_918 : decode b_Law_law 918 = .ok (.iaload, 1) := by decide +kernel
theorem d_Law_law_919 : decode b_Law_law 919 = .ok (.aload_n 3, 1) := by decide +kernel
theorem d_Law_law_920 : decode b_Law_law 920 = .ok (.invokestatic 125, 3) := by decide +kernel
theorem d_Law_law_923 : decode b_Law_law 923 = .ok (.istore 5, 2) := by decide +kernel
theorem d_Law_law_925 : decode b_Law_law 925 = .ok (.aload_n 2, 1) := by decide +kernel
theorem d_Law_law_926 : decode b_Law_law 926 = .ok (.aload_n 0, 1) := by decide +kernel
theorem d_Law_law_927 : decode b_Law_law 927 = .ok (.iload 4, 2) := by decide +kernel
theorem d_Law_law_929 : decode b_Law_law 929 = .ok (.iconst 1, 1) := by decide +kernel
theorem d_Law_law_930 : decode b_Law_law 930 = .ok (.iadd, 1) := by decide +kernel
theorem d_Law_law_931 : decode b_Law_law 931 = .ok (.iaload, 1) := by decide +kernel
theorem d_Law_law_932 : decode b_Law_law 932 = .ok (.aload_n 0, 1) := by decide +kernel
theorem d_Law_law_933 : decode b_Law_law 933 = .ok (.iload 4, 2) := by decide +kernel
theorem d_Law_law_935 : decode b_Law_law 935 = .ok (.iconst 2, 1) := by decide +kernel
theorem d_Law_law_936 : decode b_Law_law 936 = .ok (.iadd, 1) := by decide +kernel
theorem d_Law_law_937 : decode b_Law_law 937 = .ok (.iaload, 1) := by decide +kernel
theorem d_Law_law_938 : decode b_Law_law 938 = .ok (.aload_n 0, 1) := by decide +kernel
theorem d_Law_law_939 : decode b_Law_law 939 = .ok (.iload 4, 2) := by decide +kernel
theorem d_Law_law_941 : decode b_Law_law 941 = .ok (.iconst 3, 1) := by decide +kernel
theorem d_Law_law_942 : decode b_Law_law 942 = .ok (.iadd, 1) := by decide +kernel
theorem d_Law_law_943 : decode b_Law_law 943 = .ok (.iaload, 1) := by decide +kernel
theorem d_Law_law_944 : decode b_Law_law 944 = .ok (.aload_n 0, 1) := by decide +kernel
theorem d_Law_law_945 : decode b_Law_law 945 = .ok (.iload 4, 2) := by decide +kernel
theorem d_Law_law_947 : decode b_Law_law 947 = .ok (.iconst 4, 1) := by decide +kernel
theorem d_Law_law_948 : decode b_Law_law 948 = .ok (.iadd, 1) := by decide +kernel
theorem d_Law_law_949 : decode b_Law_law 949 = .ok (.iaload, 1) := by decide +kernel
theorem d_Law_law_950 : decode b_Law_law 950 = .ok (.invokevirtual 128, 3) := by decide +kernel
theorem d_Law_law_953 : decode b_Law_law 953 = .ok (.istore 6, 2) := by decide +kernel
theorem d_Law_law_955 : decode b_Law_law 955 = .ok (.aload_n 2, 1) := by decide +kernel
theorem d_Law_law_956 : decode b_Law_law 956 = .ok (.invokevirtual 64, 3) := by decide +kernel
theorem d_Law_law_959 : decode b_Law_law 959 = .ok (.iload 5, 2) := by decide +kernel
theorem d_Law_law_961 : decode b_Law_law 961 = .ok (.if_icmp .eq 5, 3) := by decide +kernel
theorem d_Law_law_964 : decode b_Law_law 964 = .ok (.iconst 0, 1) := by decide +kernel
theorem d_Law_law_965 : decode b_Law_law 965 = .ok (.ireturn, 1) := by decide +kernel
theorem d_Law_law_966 : decode b_Law_law 966 = .ok (.iload 5, 2) := by decide +kernel
theorem d_Law_law_968 : decode b_Law_law 968 = .ok (.ifCond .ne 22, 3) := by decide +kernel
theorem d_Law_law_971 : decode b_Law_law 971 = .ok (.aload_n 3, 1) := by decide +kernel
theorem d_Law_law_972 : decode b_Law_law 972 = .ok (.iconst 0, 1) := by decide +kernel
theorem d_Law_law_973 : decode b_Law_law 973 = .ok (.laload, 1) := by decide +kernel
theorem d_Law_law_974 : decode b_Law_law 974 = .ok (.iload 6, 2) := by decide +kernel
theorem d_Law_law_976 : decode b_Law_law 976 = .ok (.ifCond .eq 7, 3) := by decide +kernel
theorem d_Law_law_979 : decode b_Law_law 979 = .ok (.lconst 1, 1) := by decide +kernel
theorem d_Law_law_980 : decode b_Law_law 980 = .ok (.goto 4, 3) := by decide +kernel
theorem d_Law_law_983 : decode b_Law_law 983 = .ok (.lconst 0, 1) := by decide +kernel
theorem d_Law_law_984 : decode b_Law_law 984 = .ok (.lcmp, 1) := by decide +kernel
theorem d_Law_law_985 : decode b_Law_law 985 = .ok (.ifCond .eq 5, 3) := by decide +kernel
theorem d_Law_law_988 : decode b_Law_law 988 = .ok (.iconst 0, 1) := by decide +kernel
theorem d_Law_law_989 : decode b_Law_law 989 = .ok (.ireturn, 1) := by decide +kernel
theorem d_Law_law_990 : decode b_Law_law 990 = .ok (.goto 84, 3) := by decide +kernel
theorem d_Law_law_993 : decode b_Law_law 993 = .ok (.aload_n 1, 1) := by decide +kernel
theorem d_Law_law_994 : decode b_Law_law 994 = .ok (.aload_n 0, 1) := by decide +kernel
theorem d_Law_law_995 : decode b_Law_law 995 = .ok (.iload 4, 2) := by decide +kernel
theorem d_Law_law_997 : decode b_Law_law 997 = .ok (.iconst 1, 1) := by decide +kernel
theorem d_Law_law_998 : decode b_Law_law 998 = .ok (.iadd, 1) := by decide +kernel
theorem d_Law_law_999 : decode b_Law_law 999 = .ok (.iaload, 1) := by decide +kernel
theorem d_Law_law_1000 : decode b_Law_law 1000 = .ok (.aload_n 0, 1) := by decide +kernel
theorem d_Law_law_1001 : decode b_Law_law 1001 = .ok (.iload 4, 2) := by decide +kernel
theorem d_Law_law_1003 : decode b_Law_law 1003 = .ok (.iconst 2, 1) := by decide +kernel
theorem d_Law_law_1004 : decode b_Law_law 1004 = .ok (.iadd, 1) := by decide +kernel
theorem d_Law_law_1005 : decode b_Law_law 1005 = .ok (.iaload, 1) := by decide +kernel
theorem d_Law_law_1006 : decode b_Law_law 1006 = .ok (.aload_n 3, 1) := by decide +kernel
theorem d_Law_law_1007 : decode b_Law_law 1007 = .ok (.invokestatic 129, 3) := by decide +kernel
theorem d_Law_law_1010 : decode b_Law_law 1010 = .ok (.istore 5, 2) := by decide +kernel
theorem d_Law_law_1012 : decode b_Law_law 1012 = .ok (.aload_n 2, 1) := by decide +kernel
theorem d_Law_law_1013 : decode b_Law_law 1013 = .ok (.aload_n 0, 1) := by decide +kernel
theorem d_Law_law_1014 : decode b_Law_law 1014 = .ok (.iload 4, 2) := by decide +kernel
theorem d_Law_law_1016 : decode b_Law_law 1016 = .ok (.iconst 1, 1) := by decide +kernel
theorem d_Law_law_1017 : decode b_Law_law 1017 = .ok (.iadd, 1) := by decide +kernel
theorem d_Law_law_1018 : decode b_Law_law 1018 = .ok (.iaload, 1) := by decide +kernel
theorem d_Law_law_1019 : decode b_Law_law 1019 = .ok (.aload_n 0, 1) := by decide +kernel
theorem d_Law_law_1020 : decode b_Law_law 1020 = .ok (.iload 4, 2) := by decide +kernel
theorem d_Law_law_1022 : decode b_Law_law 1022 = .ok (.iconst 2, 1) := by decide +kernel
theorem d_Law_law_1023 : decode b_Law_law 1023 = .ok (.iadd, 1) := by decide +kernel
theorem d_Law_law_1024 : decode b_Law_law 1024 = .ok (.iaload, 1) := by decide +kernel
theorem d_Law_law_1025 : decode b_Law_law 1025 = .ok (.invokevirtual 131, 3) := by decide +kernel
theorem d_Law_law_1028 : decode b_Law_law 1028 = .ok (.istore 6, 2) := by decide +kernel
theorem d_Law_law_1030 : decode b_Law_law 1030 = .ok (.aload_n 2, 1) := by decide +kernel
theorem d_Law_law_1031 : decode b_Law_law 1031 = .ok (.invokevirtual 64, 3) := by decide +kernel
theorem d_Law_law_1034 : decode b_Law_law 1034 = .ok (.iload 5, 2) := by decide +kernel
theorem d_Law_law_1036 : decode b_Law_law 1036 = .ok (.if_icmp .eq 5, 3) := by decide +kernel
theorem d_Law_law_1039 : decode b_Law_law 1039 = .ok (.iconst 0, 1) := by decide +kernel
theorem d_Law_law_1040 : decode b_Law_law 1040 = .ok (.ireturn, 1) := by decide +kernel
theorem d_Law_law_1041 : decode b_Law_law 1041 = .ok (.iload 5, 2) := by decide +kernel
theorem d_Law_law_1043 : decode b_Law_law 1043 = .ok (.ifCond .ne 15, 3) := by decide +kernel
theorem d_Law_law_1046 : decode b_Law_law 1046 = .ok (.aload_n 3, 1) := by decide +kernel
theorem d_Law_law_1047 : decode b_Law_law 1047 = .ok (.iconst 0, 1) := by decide +kernel
theorem d_Law_law_1048 : decode b_Law_law 1048 = .ok (.laload, 1) := by decide +kernel
theorem d_Law_law_1049 : decode b_Law_law 1049 = .ok (.iload 6, 2) := by decide +kernel
theorem d_Law_law_1051 : decode b_Law_law 1051 = .ok (.i2l, 1) := by decide +kernel
theorem d_Law_law_1052 : decode b_Law_law 1052 = .ok (.lcmp, 1) := by decide +kernel
theorem d_Law_law_1053 : decode b_Law_law 1053 = .ok (.ifCond .eq 5, 3) := by decide +kernel
theorem d_Law_law_1056 : decode b_Law_law 1056 = .ok (.iconst 0, 1) := by decide +kernel
theorem d_Law_law_1057 : decode b_Law_law 1057 = .ok (.ireturn, 1) := by decide +kernel
theorem d_Law_law_1058 : decode b_Law_law 1058 = .ok (.goto 16, 3) := by decide +kernel
theorem d_Law_law_1061 : decode b_Law_law 1061 = .ok (.aload_n 1, 1) := by decide +kernel
theorem d_Law_law_1062 : decode b_Law_law 1062 = .ok (.invokevirtual 132, 3) := by decide +kernel
theorem d_Law_law_1065 : decode b_Law_law 1065 = .ok (.aload_n 2, 1) := by decide +kernel
theorem d_Law_law_1066 : decode b_Law_law 1066 = .ok (.invokevirtual 135, 3) := by decide +kernel
theorem d_Law_law_1069 : decode b_Law_law 1069 = .ok (.if_icmp .eq 5, 3) := by decide +kernel
theorem d_Law_law_1072 : decode b_Law_law 1072 = .ok (.iconst 0, 1) := by decide +kernel
theorem d_Law_law_1073 : decode b_Law_law 1073 = .ok (.ireturn, 1) := by decide +kernel
theorem d_Law_law_1074 : decode b_Law_law 1074 = .ok (.iinc 4 6, 3) := by decide +kernel
theorem d_Law_law_1077 : decode b_Law_law 1077 = .ok (.goto (-1054), 3) := by decide +kernel
theorem d_Law_law_1080 : decode b_Law_law 1080 = .ok (.iconst 1, 1) := by decide +kernel
theorem d_Law_law_1081 : decode b_Law_law 1081 = .ok (.ireturn, 1) := by decide +kernel
