theorem d_Model_inductive_0 : decode b_Model_inductive 0 = .ok (.aload_n 0, 1) := by decide +kernel
theorem d_Model_inductive_1 : decode b_Model_inductive 1 = .ok (.invokevirtual 308, 3) := by decide +kernel
theorem d_Model_inductive_4 : decode b_Model_inductive 4 = .ok (.ifCond .ne 26, 3) := by decide +kernel
theorem d_Model_inductive_7 : decode b_Model_inductive 7 = .ok (.aload_n 0, 1) := by decide +kernel
theorem d_Model_inductive_8 : decode b_Model_inductive 8 = .ok (.iload_n 1, 1) := by decide +kernel
theorem d_Model_inductive_9 : decode b_Model_inductive 9 = .ok (.ifCond .lt 9, 3) := by decide +kernel
theorem d_Model_inductive_12 : decode b_Model_inductive 12 = .ok (.iload_n 1, 1) := by decide +kernel
theorem d_Model_inductive_13 : decode b_Model_inductive 13 = .ok (.bipush 8, 2) := by decide +kernel
theorem d_Model_inductive_15 : decode b_Model_inductive 15 = .ok (.if_icmp .le 7, 3) := by decide +kernel
theorem d_Model_inductive_18 : decode b_Model_inductive 18 = .ok (.iconst 1, 1) := by decide +kernel
theorem d_Model_inductive_19 : decode b_Model_inductive 19 = .ok (.goto 4, 3) := by decide +kernel
theorem d_Model_inductive_22 : decode b_Model_inductive 22 = .ok (.iconst 0, 1) := by decide +kernel
theorem d_Model_inductive_23 : decode b_Model_inductive 23 = .ok (.iconst 2, 1) := by decide +kernel
theorem d_Model_inductive_24 : decode b_Model_inductive 24 = .ok (.invokevirtual 301, 3) := by decide +kernel
theorem d_Model_inductive_27 : decode b_Model_inductive 27 = .ok (.ifCond .eq 5, 3) := by decide +kernel
theorem d_Model_inductive_30 : decode b_Model_inductive 30 = .ok (.iconst 0, 1) := by decide +kernel
theorem d_Model_inductive_31 : decode b_Model_inductive 31 = .ok (.ireturn, 1) := by decide +kernel
theorem d_Model_inductive_32 : decode b_Model_inductive 32 = .ok (.iconst 0, 1) := by decide +kernel
theorem d_Model_inductive_33 : decode b_Model_inductive 33 = .ok (.istore_n 2, 1) := by decide +kernel
theorem d_Model_inductive_34 : decode b_Model_inductive 34 = .ok (.iconst 0, 1) := by decide +kernel
theorem d_Model_inductive_35 : decode b_Model_inductive 35 = .ok (.istore_n 3, 1) := by decide +kernel
theorem d_Model_inductive_36 : decode b_Model_inductive 36 = .ok (.iload_n 3, 1) := by decide +kernel
theorem d_Model_inductive_37 : decode b_Model_inductive 37 = .ok (.aload_n 0, 1) := by decide +kernel
theorem d_Model_inductive_38 : decode b_Model_inductive 38 = .ok (.getfield 277, 3) := by decide +kernel
theorem d_Model_inductive_41 : decode b_Model_inductive 41 = .ok (.if_icmp .ge 50, 3) := by decide +kernel
theorem d_Model_inductive_44 : decode b_Model_inductive 44 = .ok (.aload_n 0, 1) := by decide +kernel
theorem d_Model_inductive_45 : decode b_Model_inductive 45 = .ok (.getfield 106, 3) := by decide +kernel
theorem d_Model_inductive_48 : decode b_Model_inductive 48 = .ok (.iload_n 3, 1) := by decide +kernel
theorem d_Model_inductive_49 : decode b_Model_inductive 49 = .ok (.aload_n 0, 1) := by decide +kernel
theorem d_Model_inductive_50 : decode b_Model_inductive 50 = .ok (.getfield 89, 3) := by decide +kernel
theorem d_Model_inductive_53 : decode b_Model_inductive 53 = .ok (.iload_n 3, 1) := by decide +kernel
theorem d_Model_inductive_54 : decode b_Model_inductive 54 = .ok (.laload, 1) := by decide +kernel
theorem d_Model_inductive_55 : decode b_Model_inductive 55 = .ok (.lconst 0, 1) := by decide +kernel
theorem d_Model_inductive_56 : decode b_Model_inductive 56 = .ok (.lcmp, 1) := by decide +kernel
theorem d_Model_inductive_57 : decode b_Model_inductive 57 = .ok (.ifCond .eq 7, 3) := by decide +kernel
theorem d_Model_inductive_60 : decode b_Model_inductive 60 = .ok (.iconst 1, 1) := by decide +kernel
theorem d_Model_inductive_61 : decode b_Model_inductive 61 = .ok (.goto 4, 3) := by decide +kernel
theorem d_Model_inductive_64 : decode b_Model_inductive 64 = .ok (.iconst 0, 1) := by decide +kernel
theorem d_Model_inductive_65 : decode b_Model_inductive 65 = .ok (.bastore, 1) := by decide +kernel
theorem d_Model_inductive_66 : decode b_Model_inductive 66 = .ok (.iload_n 2, 1) := by decide +kernel
theorem d_Model_inductive_67 : decode b_Model_inductive 67 = .ok (.ifCond .ne 12, 3) := by decide +kernel
theorem d_Model_inductive_70 : decode b_Model_inductive 70 = .ok (.aload_n 0, 1) := by decide +kernel
theorem d_Model_inductive_71 : decode b_Model_inductive 71 = .ok (.getfield 106, 3) := by decide +kernel
theorem d_Model_inductive_74 : decode b_Model_inductive 74 = .ok (.iload_n 3, 1) := by decide +kernel
theorem d_Model_inductive_75 : decode b_Model_inductive 75 = .ok (.baload, 1) := by decide +kernel
theorem d_Model_inductive_76 : decode b_Model_inductive 76 = .ok (.ifCond .eq 7, 3) := by decide +kernel
theorem d_Model_inductive_79 : decode b_Model_inductive 79 = .ok (.iconst 1, 1) := by decide +kernel
theorem d_Model_inductive_80 : decode b_Model_inductive 80 = .ok (.goto 4, 3) := by decide +kernel
theorem d_Model_inductive_83 : decode b_Model_inductive 83 = .ok (.iconst 0, 1) := by decide +kernel
theorem d_Model_inductive_84 : decode b_Model_inductive 84 = .ok (.istore_n 2, 1) := by decide +kernel
theorem d_Model_inductive_85 : decode b_Model_inductive 85 = .ok (.iinc 3 1, 3) := by decide +kernel
theorem d_Model_inductive_88 : decode b_Model_inductive 88 = .ok (.goto (-52), 3) := by decide +kernel
theorem d_Model_inductive_91 : decode b_Model_inductive 91 = .ok (.iconst 0, 1) := by decide +kernel
theorem d_Model_inductive_92 : decode b_Model_inductive 92 = .ok (.istore_n 3, 1) := by decide +kernel
theorem d_Model_inductive_93 : decode b_Model_inductive 93 = .ok (.iload_n 3, 1) := by decide +kernel
theorem d_Model_inductive_94 : decode b_Model_inductive 94 = .ok (.iload_n 1, 1) := by decide +kernel
theorem d_Model_inductive_95 : decode b_Model_inductive 95 = .ok (.if_icmp .ge 171, 3) := by decide +kernel
theorem d_Model_inductive_98 : decode b_Model_inductive 98 = .ok (.iload_n 2, 1) := by decide +kernel
theorem d_Model_inductive_99 : decode b_Model_inductive 99 = .ok (.ifCond .eq 167, 3) := by decide +kernel
theorem d_Model_inductive_102 : decode b_Model_inductive 102 = .ok (.iconst 0, 1) := by decide +kernel
theorem d_Model_inductive_103 : decode b_Model_inductive 103 = .ok (.istore_n 2, 1) := by decide +kernel
theorem d_Model_inductive_104 : decode b_Model_inductive 104 = .ok (.iconst 0, 1) := by decide +kernel
theorem d_Model_inductive_105 : decode b_Model_inductive 105 = .ok (.istore 4, 2) := by decide +kernel
theorem d_Model_inductive_107 : decode b_Model_inductive 107 = .ok (.iload 4, 2) := by decide +kernel
theorem d_Model_inductive_109 : decode b_Model_inductive 109 = .ok (.aload_n 0, 1) := by decide +kernel
theorem d_Model_inductive_110 : decode b_Model_inductive 110 = .ok (.getfield 277, 3) := by decide +kernel
theorem d_Model_inductive_113 : decode b_Model_inductive 113 = .ok (.if_icmp .ge 115, 3) := by decide +kernel
theorem d_Model_inductive_116 : decode b_Model_inductive 116 = .ok (.aload_n 0, 1) := by decide +kernel
theorem d_Model_inductive_117 : decode b_Model_inductive 117 = .ok (.getfield 109, 3) := by decide +kernel
theorem d_Model_inductive_120 : decode b_Model_inductive 120 = .ok (.iload 4, 2) := by decide +kernel
theorem d_Model_inductive_122 : decode b_Model_inductive 122 = .ok (.iconst 0, 1) := by decide +kernel
theorem d_Model_inductive_123 : decode b_Model_inductive 123 = .ok (.bastore, 1) := by decide +kernel
theorem d_Model_inductive_124 : decode b_Model_inductive 124 = .ok (.iconst 0, 1) := by decide +kernel
theorem d_Model_inductive_125 : decode b_Model_inductive 125 = .ok (.istore 5, 2) := by decide +kernel
theorem d_Model_inductive_127 : decode b_Model_inductive 127 = .ok (.iload 5, 2) := by decide +kernel
theorem d_Model_inductive_129 : decode b_Model_inductive 129 = .ok (.aload_n 0, 1) := by decide +kernel
theorem d_Model_inductive_130 : decode b_Model_inductive 130 = .ok (.getfield 274, 3) := by decide +kernel
theorem d_Model_inductive_133 : decode b_Model_inductive 133 = .ok (.if_icmp .ge 69, 3) := by decide +kernel
theorem d_Model_inductive_136 : decode b_Model_inductive 136 = .ok (.aload_n 0, 1) := by decide +kernel
theorem d_Model_inductive_137 : decode b_Model_inductive 137 = .ok (.getfield 109, 3) := by decide +kernel
theorem d_Model_inductive_140 : decode b_Model_inductive 140 = .ok (.iload 4, 2) := by decide +kernel
theorem d_Model_inductive_142 : decode b_Model_inductive 142 = .ok (.baload, 1) := by decide +kernel
theorem d_Model_inductive_143 : decode b_Model_inductive 143 = .ok (.ifCond .ne 59, 3) := by decide +kernel
theorem d_Model_inductive_146 : decode b_Model_inductive 146 = .ok (.aload_n 0, 1) := by decide +kernel
theorem d_Model_inductive_147 : decode b_Model_inductive 147 = .ok (.getfield 109, 3) := by decide +kernel
theorem d_Model_inductive_150 : decode b_Model_inductive 150 = .ok (.iload 4, 2) := by decide +kernel
theorem d_Model_inductive_152 : decode b_Model_inductive 152 = .ok (.aload_n 0, 1) := by decide +kernel
theorem d_Model_inductive_153 : decode b_Model_inductive 153 = .ok (.getfield 89, 3) := by decide +kernel
theorem d_Model_inductive_156 : decode b_Model_inductive 156 = .ok (.iload 4, 2) := by decide +kernel
theorem d_Model_inductive_158 : decode b_Model_inductive 158 = .ok (.laload, 1) := by decide +kernel
theorem d_Model_inductive_159 : decode b_Model_inductive 159 = .ok (.iload 5, 2) := by decide +kernel
theorem d_Model_inductive_161 : decode b_Model_inductive 161 = .ok (.lshr, 1) := by decide +kernel
theorem d_Model_inductive_162 : decode b_Model_inductive 162 = .ok (.lconst 1, 1) := by decide +kernel
theorem d_Model_inductive_163 : decode b_Model_inductive 163 = .ok (.land, 1) := by decide +kernel
theorem d_Model_inductive_164 : decode b_Model_inductive 164 = .ok (.lconst 0, 1) := by decide +kernel
theorem d_Model_inductive_165 : decode b_Model_inductive 165 = .ok (.lcmp, 1) := by decide +kernel
theorem d_Model_inductive_166 : decode b_Model_inductive 166 = .ok (.ifCond .ne 28, 3) := by decide +kernel
theorem d_Model_inductive_169 : decode b_Model_inductive 169 = .ok (.aload_n 0, 1) := by decide +kernel
theorem d_Model_inductive_170 : decode b_Model_inductive 170 = .ok (.getfield 106, 3) := by decide +kernel
theorem d_Model_inductive_173 : decode b_Model_inductive 173 = .ok (.aload_n 0, 1) := by decide +kernel
theorem d_Model_inductive_174 : decode b_Model_inductive 174 = .ok (.getfield 93, 3) := by decide +kernel
theorem d_Model_inductive_177 : decode b_Model_inductive 177 = .ok (.bipush 32, 2) := by decide +kernel
theorem d_Model_inductive_179 : decode b_Model_inductive 179 = .ok (.iload 4, 2) := by decide +kernel
theorem d_Model_inductive_181 : decode b_Model_inductive 181 = .ok (.imul, 1) := by decide +kernel
theorem d_Model_inductive_182 : decode b_Model_inductive 182 = .ok (.iload 5, 2) := by decide +kernel
theorem d_Model_inductive_184 : decode b_Model_inductive 184 = .ok (.iadd, 1) := by decide +kernel
theorem d_Model_inductive_185 : decode b_Model_inductive 185 = .ok (.caload, 1) := by decide +kernel
theorem d_Model_inductive_186 : decode b_Model_inductive 186 = .ok (.baload, 1) := by decide +kernel
theorem d_Model_inductive_187 : decode b_Model_inductive 187 = .ok (.ifCond .eq 7, 3) := by decide +kernel
theorem d_Model_inductive_190 : decode b_Model_inductive 190 = .ok (.iconst 1, 1) := by decide +kernel
theorem d_Model_inductive_191 : decode b_Model_inductive 191 = .ok (.goto 4, 3) := by decide +kernel
theorem d_Model_inductive_194 : decode b_Model_inductive 194 = .ok (.iconst 0, 1) := by decide +kernel
theorem d_Model_inductive_195 : decode b_Model_inductive 195 = .ok (.bastore, 1) := by decide +kernel
theorem d_Model_inductive_196 : decode b_Model_inductive 196 = .ok (.iinc 5 1, 3) := by decide +kernel
theorem d_Model_inductive_199 : decode b_Model_inductive 199 = .ok (.goto (-72), 3) := by decide +kernel
theorem d_Model_inductive_202 : decode b_Model_inductive 202 = .ok (.iload_n 2, 1) := by decide +kernel
theorem d_Model_inductive_203 : decode b_Model_inductive 203 = .ok (.ifCond .ne 13, 3) := by decide +kernel
theorem d_Model_inductive_206 : decode b_Model_inductive 206 = .ok (.aload_n 0, 1) := by decide +kernel
theorem d_Model_inductive_207 : decode b_Model_inductive 207 = .ok (.getfield 109, 3) := by decide +kernel
theorem d_Model_inductive_210 : decode b_Model_inductive 210 = .ok (.iload 4, 2) := by decide +kernel
theorem d_Model_inductive_212 : decode b_Model_inductive 212 = .ok (.baload, 1) := by decide +kernel
theorem d_Model_inductive_213 : decode b_Model_inductive 213 = .ok (.ifCond .eq 7, 3) := by decide +kernel
theorem d_Model_inductive_216 : decode b_Model_inductive 216 = .ok (.iconst 1, 1) := by decide +kernel
theorem d_Model_inductive_217 : decode b_Model_inductive 217 = .ok (.goto 4, 3) := by decide +kernel
theorem d_Model_inductive_220 : decode b_Model_inductive 220 = .ok (.iconst 0, 1) := by decide +kernel
theorem d_Model_inductive_221 : decode b_Model_inductive 221 = .ok (.istore_n 2, 1) := by decide +kernel
theorem d_Model_inductive_222 : decode b_Model_inductive 222 = .ok (.iinc 4 1, 3) := by decide +kernel
theorem d_Model_inductive_225 : decode b_Model_inductive 225 = .ok (.goto (-118), 3) := by decide +kernel
theorem d_Model_inductive_228 : decode b_Model_inductive 228 = .ok (.iconst 0, 1) := by decide +kernel
theorem d_Model_inductive_229 : decode b_Model_inductive 229 = .ok (.istore 4, 2) := by decide +kernel
theorem d_Model_inductive_231 : decode b_Model_inductive 231 = .ok (.iload 4, 2) := by decide +kernel
theorem d_Model_inductive_233 : decode b_Model_inductive 233 = .ok (.aload_n 0, 1) := by decide +kernel
theorem d_Model_inductive_234 : decode b_Model_inductive 234 = .ok (.getfield 277, 3) := by decide +kernel
theorem d_Model_inductive_237 : decode b_Model_inductive 237 = .ok (.if_icmp .ge 23, 3) := by decide +kernel
theorem d_Model_inductive_240 : decode b_Model_inductive 240 = .ok (.aload_n 0, 1) := by decide +kernel
theorem d_Model_inductive_241 : decode b_Model_inductive 241 = .ok (.getfield 106, 3) := by decide +kernel
theorem d_Model_inductive_244 : decode b_Model_inductive 244 = .ok (.iload 4, 2) := by decide +kernel
theorem d_Model_inductive_246 : decode b_Model_inductive 246 = .ok (.aload_n 0, 1) := by decide +kernel
theorem d_Model_inductive_247 : decode b_Model_inductive 247 = .ok (.getfield 109, 3) := by decide +kernel
theorem d_Model_inductive_250 : decode b_Model_inductive 250 = .ok (.iload 4, 2) := by decide +kernel
theorem d_Model_inductive_252 : decode b_Model_inductive 252 = .ok (.baload, 1) := by decide +kernel
theorem d_Model_inductive_253 : decode b_Model_inductive 253 = .ok (.bastore, 1) := by decide +kernel
theorem d_Model_inductive_254 : decode b_Model_inductive 254 = .ok (.iinc 4 1, 3) := by decide +kernel
theorem d_Model_inductive_257 : decode b_Model_inductive 257 = .ok (.goto (-26), 3) := by decide +kernel
theorem d_Model_inductive_260 : decode b_Model_inductive 260 = .ok (.iinc 3 1, 3) := by decide +kernel
theorem d_Model_inductive_263 : decode b_Model_inductive 263 = .ok (.goto (-170), 3) := by decide +kernel
theorem d_Model_inductive_266 : decode b_Model_inductive 266 = .ok (.iload_n 2, 1) := by decide +kernel
theorem d_Model_inductive_267 : decode b_Model_inductive 267 = .ok (.ifCond .ne 7, 3) := by decide +kernel
theorem d_Model_inductive_270 : decode b_Model_inductive 270 = .ok (.iconst 1, 1) := by decide +kernel
theorem d_Model_inductive_271 : decode b_Model_inductive 271 = .ok (.goto 4, 3) := by decide +kernel
theorem d_Model_inductive_274 : decode b_Model_inductive 274 = .ok (.iconst 0, 1) := by decide +kernel
theorem d_Model_inductive_275 : decode b_Model_inductive 275 = .ok (.ireturn, 1) := by decide +kernel
theorem d_Model_pairs_0 : decode b_Model_pairs 0 = .ok (.aload_n 0, 1) := by decide +kernel
theorem d_Model_pairs_1 : decode b_Model_pairs 1 = .ok (.invokevirtual 308, 3) := by decide +kernel
theorem d_Model_pairs_4 : decode b_Model_pairs 4 = .ok (.ifCond .ne 25, 3) := by decide +kernel
theorem d_Model_pairs_7 : decode b_Model_pairs 7 = .ok (.aload_n 0, 1) := by decide +kernel
theorem d_Model_pairs_8 : decode b_Model_pairs 8 = .ok (.iload_n 1, 1) := by decide +kernel
theorem d_Model_pairs_9 : decode b_Model_pairs 9 = .ok (.ifCond .lt 8, 3) := by decide +kernel
theorem d_Model_pairs_12 : decode b_Model_pairs 12 = .ok (.iload_n 1, 1) := by decide +kernel
theorem d_Model_pairs_13 : decode b_Model_pairs 13 = .ok (.iconst 1, 1) := by decide +kernel
theorem d_Model_pairs_14 : decode b_Model_pairs 14 = .ok (.if_icmp .le 7, 3) := by decide +kernel
theorem d_Model_pairs_17 : decode b_Model_pairs 17 = .ok (.iconst 1, 1) := by decide +kernel
theorem d_Model_pairs_18 : decode b_Model_pairs 18 = .ok (.goto 4, 3) := by decide +kernel
theorem d_Model_pairs_21 : decode b_Model_pairs 21 = .ok (.iconst 0, 1) := by decide +kernel
theorem d_Model_pairs_22 : decode b_Model_pairs 22 = .ok (.iconst 2, 1) := by decide +kernel
theorem d_Model_pairs_23 : decode b_Model_pairs 23 = .ok (.invokevirtual 301, 3) := by decide +kernel
theorem d_Model_pairs_26 : decode b_Model_pairs 26 = .ok (.ifCond .eq 5, 3) := by decide +kernel
theorem d_Model_pairs_29 : decode b_Model_pairs 29 = .ok (.iconst 0, 1) := by decide +kernel
theorem d_Model_pairs_30 : decode b_Model_pairs 30 = .ok (.ireturn, 1) := by decide +kernel
theorem d_Model_pairs_31 : decode b_Model_pairs 31 = .ok (.iload_n 1, 1) := by decide +kernel
theorem d_Model_pairs_32 : decode b_Model_pairs 32 = .ok (.ifCond .ne 10, 3) := by decide +kernel
theorem d_Model_pairs_35 : decode b_Model_pairs 35 = .ok (.aload_n 0, 1) := by decide +kernel
theorem d_Model_pairs_36 : decode b_Model_pairs 36 = .ok (.getfield 286, 3) := by decide +kernel
theorem d_Model_pairs_39 : decode b_Model_pairs 39 = .ok (.goto 21, 3) := by decide +kernel
theorem d_Model_pairs_42 : decode b_Model_pairs 42 = .ok (.aload_n 0, 1) := by decide +kernel
theorem d_Model_pairs_43 : decode b_Model_pairs 43 = .ok (.getfield 100, 3) := by decide +kernel
theorem d_Model_pairs_46 : decode b_Model_pairs 46 = .ok (.aload_n 0, 1) := by decide +kernel
theorem d_Model_pairs_47 : decode b_Model_pairs 47 = .ok (.getfield 97, 3) := by decide +kernel
theorem d_Model_pairs_50 : decode b_Model_pairs 50 = .ok (.aload_n 0, 1) := by decide +kernel
theorem d_Model_pairs_51 : decode b_Model_pairs 51 = .ok (.getfield 286, 3) := by decide +kernel
theorem d_Model_pairs_54 : decode b_Model_pairs 54 = .ok (.iconst 1, 1) := by decide +kernel
theorem d_Model_pairs_55 : decode b_Model_pairs 55 = .ok (.isub, 1) := by decide +kernel
theorem d_Model_pairs_56 : decode b_Model_pairs 56 = .ok (.iaload, 1) := by decide +kernel
theorem d_Model_pairs_57 : decode b_Model_pairs 57 = .ok (.iaload, 1) := by decide +kernel
theorem d_Model_pairs_58 : decode b_Model_pairs 58 = .ok (.iconst 1, 1) := by decide +kernel
theorem d_Model_pairs_59 : decode b_Model_pairs 59 = .ok (.isub, 1) := by decide +kernel
theorem d_Model_pairs_60 : decode b_Model_pairs 60 = .ok (.ireturn, 1) := by decide +kernel
theorem d_Model_depth_0 : decode b_Model_depth 0 = .ok (.aload_n 0, 1) := by decide +kernel
theorem d_Model_depth_1 : decode b_Model_depth 1 = .ok (.invokevirtual 308, 3) := by decide +kernel
theorem d_Model_depth_4 : decode b_Model_depth 4 = .ok (.ifCond .ne 47, 3) := by decide +kernel
theorem d_Model_depth_7 : decode b_Model_depth 7 = .ok (.aload_n 0, 1) := by decide +kernel
theorem d_Model_depth_8 : decode b_Model_depth 8 = .ok (.iload_n 1, 1) := by decide +kernel
theorem d_Model_depth_9 : decode b_Model_depth 9 = .ok (.ifCond .lt 30, 3) := by decide +kernel
theorem d_Model_depth_12 : decode b_Model_depth 12 = .ok (.iload_n 1, 1) := by decide +kernel
theorem d_Model_depth_13 : decode b_Model_depth 13 = .ok (.aload_n 0, 1) := by decide +kernel
theorem d_Model_depth_14 : decode b_Model_depth 14 = .ok (.getfield 20, 3) := by decide +kernel
theorem d_Model_depth_17 : decode b_Model_depth 17 = .ok (.iconst 2, 1) := by decide +kernel
theorem d_Model_depth_18 : decode b_Model_depth 18 = .ok (.iaload, 1) := by decide +kernel
theorem d_Model_depth_19 : decode b_Model_depth 19 = .ok (.ishr, 1) := by decide +kernel
theorem d_Model_depth_20 : decode b_Model_depth 20 = .ok (.ifCond .ne 19, 3) := by decide +kernel
theorem d_Model_depth_23 : decode b_Model_depth 23 = .ok (.iload_n 2, 1) := by decide +kernel
theorem d_Model_depth_24 : decode b_Model_depth 24 = .ok (.ifCond .lt 15, 3) := by decide +kernel
theorem d_Model_depth_27 : decode b_Model_depth 27 = .ok (.iload_n 2, 1) := by decide +kernel
theorem d_Model_depth_28 : decode b_Model_depth 28 = .ok (.aload_n 0, 1) := by decide +kernel
theorem d_Model_depth_29 : decode b_Model_depth 29 = .ok (.getfield 20, 3) := by decide +kernel
theorem d_Model_depth_32 : decode b_Model_depth 32 = .ok (.bipush 7, 2) := by decide +kernel
theorem d_Model_depth_34 : decode b_Model_depth 34 = .ok (.iaload, 1) := by decide +kernel
theorem d_Model_depth_35 : decode b_Model_depth 35 = .ok (.ishr, 1) := by decide +kernel
theorem d_Model_depth_36 : decode b_Model_depth 36 = .ok (.ifCond .eq 7, 3) := by decide +kernel
theorem d_Model_depth_39 : decode b_Model_depth 39 = .ok (.iconst 1, 1) := by decide +kernel
theorem d_Model_depth_40 : decode b_Model_depth 40 = .ok (.goto 4, 3) := by decide +kernel
theorem d_Model_depth_43 : decode b_Model_depth 43 = .ok (.iconst 0, 1) := by decide +kernel
theorem d_Model_depth_44 : decode b_Model_depth 44 = .ok (.iconst 2, 1) := by decide +kernel
theorem d_Model_depth_45 : decode b_Model_depth 45 = .ok (.invokevirtual 301, 3) := by decide +kernel
theorem d_Model_depth_48 : decode b_Model_depth 48 = .ok (.ifCond .eq 5, 3) := by decide +kernel
theorem d_Model_depth_51 : decode b_Model_depth 51 = .ok (.iconst 0, 1) := by decide +kernel
theorem d_Model_depth_52 : decode b_Model_depth 52 = .ok (.ireturn, 1) := by decide +kernel
theorem d_Model_depth_53 : decode b_Model_depth 53 = .ok (.aload_n 0, 1) := by decide +kernel
theorem d_Model_depth_54 : decode b_Model_depth 54 = .ok (.getfield 100, 3) := by decide +kernel
theorem d_Model_depth_57 : decode b_Model_depth 57 = .ok (.iload_n 1, 1) := by decide +kernel
theorem d_Model_depth_58 : decode b_Model_depth 58 = .ok (.iload_n 2, 1) := by decide +kernel
theorem d_Model_depth_59 : decode b_Model_depth 59 = .ok (.aload_n 0, 1) := by decide +kernel
theorem d_Model_depth_60 : decode b_Model_depth 60 = .ok (.getfield 20, 3) := by decide +kernel
theorem d_Model_depth_63 : decode b_Model_depth 63 = .ok (.iconst 2, 1) := by decide +kernel
theorem d_Model_depth_64 : decode b_Model_depth 64 = .ok (.iaload, 1) := by decide +kernel
theorem d_Model_depth_65 : decode b_Model_depth 65 = .ok (.ishl, 1) := by decide +kernel
theorem d_Model_depth_66 : decode b_Model_depth 66 = .ok (.ior, 1) := by decide +kernel
theorem d_Model_depth_67 : decode b_Model_depth 67 = .ok (.iaload, 1) := by decide +kernel
theorem d_Model_depth_68 : decode b_Model_depth 68 = .ok (.iconst 1, 1) := by decide +kernel
theorem d_Model_depth_69 : decode b_Model_depth 69 = .ok (.isub, 1) := by decide +kernel
theorem d_Model_depth_70 : decode b_Model_depth 70 = .ok (.ireturn, 1) := by decide +kernel
theorem d_Model_same_0 : decode b_Model_same 0 = .ok (.aload_n 0, 1) := by decide +kernel
theorem d_Model_same_1 : decode b_Model_same 1 = .ok (.invokevirtual 308, 3) := by decide +kernel
theorem d_Model_same_4 : decode b_Model_same 4 = .ok (.ifCond .ne 35, 3) := by decide +kernel
theorem d_Model_same_7 : decode b_Model_same 7 = .ok (.aload_n 0, 1) := by decide +kernel
theorem d_Model_same_8 : decode b_Model_same 8 = .ok (.aload_n 0, 1) := by decide +kernel
theorem d_Model_same_9 : decode b_Model_same 9 = .ok (.iload_n 1, 1) := by decide +kernel
theorem d_Model_same_10 : decode b_Model_same 10 = .ok (.iload_n 2, 1) := by decide +kernel
theorem d_Model_same_11 : decode b_Model_same 11 = .ok (.invokevirtual 257, 3) := by decide +kernel
theorem d_Model_same_14 : decode b_Model_same 14 = .ok (.ifCond .eq 13, 3) := by decide +kernel
theorem d_Model_same_17 : decode b_Model_same 17 = .ok (.aload_n 0, 1) := by decide +kernel
theorem d_Model_same_18 : decode b_Model_same 18 = .ok (.iload_n 3, 1) := by decide +kernel
theorem d_Model_same_19 : decode b_Model_same 19 = .ok (.iload 4, 2) := by decide +kernel
theorem d_Model_same_21 : decode b_Model_same 21 = .ok (.invokevirtual 257, 3) := by decide +kernel
theorem d_Model_same_24 : decode b_Model_same 24 = .ok (.ifCond .ne 7, 3) := by decide +kernel
theorem d_Model_same_27 : decode b_Model_same 27 = .ok (.iconst 1, 1) := by decide +kernel
theorem d_Model_same_28 : decode b_Model_same 28 = .ok (.goto 4, 3) := by decide +kernel
theorem d_Model_same_31 : decode b_Model_same 31 = .ok (.iconst 0, 1) := by decide +kernel
theorem d_Model_same_32 : decode b_Model_same 32 = .ok (.iconst 2, 1) := by decide +kernel
theorem d_Model_same_33 : decode b_Model_same 33 = .ok (.invokevirtual 301, 3) := by decide +kernel
theorem d_Model_same_36 : decode b_Model_same 36 = .ok (.ifCond .eq 5, 3) := by decide +kernel
theorem d_Model_same_39 : decode b_Model_same 39 = .ok (.iconst 0, 1) := by decide +kernel
theorem d_Model_same_40 : decode b_Model_same 40 = .ok (.ireturn, 1) := by decide +kernel
theorem d_Model_same_41 : decode b_Model_same 41 = .ok (.iconst 1, 1) := by decide +kernel
theorem d_Model_same_42 : decode b_Model_same 42 = .ok (.istore 5, 2) := by decide +kernel
theorem d_Model_same_44 : decode b_Model_same 44 = .ok (.iconst 0, 1) := by decide +kernel
theorem d_Model_same_45 : decode b_Model_same 45 = .ok (.istore 6, 2) := by decide +kernel
theorem d_Model_same_47 : decode b_Model_same 47 = .ok (.iload 6, 2) := by decide +kernel
theorem d_Model_same_49 : decode b_Model_same 49 = .ok (.aload_n 0, 1) := by decide +kernel
theorem d_Model_same_50 : decode b_Model_same 50 = .ok (.getfield 286, 3) := by decide +kernel
theorem d_Model_same_53 : decode b_Model_same 53 = .ok (.if_icmp .ge 56, 3) := by decide +kernel
theorem d_Model_same_56 : decode b_Model_same 56 = .ok (.iload 5, 2) := by decide +kernel
theorem d_Model_same_58 : decode b_Model_same 58 = .ok (.ifCond .eq 51, 3) := by decide +kernel
theorem d_Model_same_61 : decode b_Model_same 61 = .ok (.aload_n 0, 1) := by decide +kernel
theorem d_Model_same_62 : decode b_Model_same 62 = .ok (.aload_n 0, 1) := by decide +kernel
theorem d_Model_same_63 : decode b_Model_same 63 = .ok (.getfield 97, 3) := by decide +kernel
theorem d_Model_same_66 : decode b_Model_same 66 = .ok (.iload 6, 2) := by decide +kernel
theorem d_Model_same_68 : decode b_Model_same 68 = .ok (.iaload, 1) := by decide +kernel
theorem d_Model_same_69 : decode b_Model_same 69 = .ok (.invokevirtual 280, 3) := by decide +kernel
theorem d_Model_same_72 : decode b_Model_same 72 = .ok (.aload_n 0, 1) := by decide +kernel
theorem d_Model_same_73 : decode b_Model_same 73 = .ok (.iload_n 1, 1) := by decide +kernel
theorem d_Model_same_74 : decode b_Model_same 74 = .ok (.iload_n 2, 1) := by decide +kernel
theorem d_Model_same_75 : decode b_Model_same 75 = .ok (.invokevirtual 253, 3) := by decide +kernel
theorem d_Model_same_78 : decode b_Model_same 78 = .ok (.aload_n 0, 1) := by decide +kernel
theorem d_Model_same_79 : decode b_Model_same 79 = .ok (.iload_n 3, 1) := by decide +kernel
theorem d_Model_same_80 : decode b_Model_same 80 = .ok (.iload 4, 2) := by decide +kernel
theorem d_Model_same_82 : decode b_Model_same 82 = .ok (.invokevirtual 253, 3) := by decide +kernel
theorem d_Model_same_85 : decode b_Model_same 85 = .ok (.lxor, 1) := by decide +kernel
theorem d_Model_same_86 : decode b_Model_same 86 = .ok (.aload_n 0, 1) := by decide +kernel
theorem d_Model_same_87 : decode b_Model_same 87 = .ok (.invokevirtual 270, 3) := by decide +kernel
theorem d_Model_same_90 : decode b_Model_same 90 = .ok (.land, 1) := by decide +kernel
theorem d_Model_same_91 : decode b_Model_same 91 = .ok (.lconst 0, 1) := by decide +kernel
theorem d_Model_same_92 : decode b_Model_same 92 = .ok (.lcmp, 1) := by decide +kernel
theorem d_Model_same_93 : decode b_Model_same 93 = .ok (.ifCond .ne 7, 3) := by decide +kernel
theorem d_Model_same_96 : decode b_Model_same 96 = .ok (.iconst 1, 1) := by decide +kernel
theorem d_Model_same_97 : decode b_Model_same 97 = .ok (.goto 4, 3) := by decide +kernel
theorem d_Model_same_100 : decode b_Model_same 100 = .ok (.iconst 0, 1) := by decide +kernel
theorem d_Model_same_101 : decode b_Model_same 101 = .ok (.istore 5, 2) := by decide +kernel
theorem d_Model_same_103 : decode b_Model_same 103 = .ok (.iinc 6 1, 3) := by decide +kernel
theorem d_Model_same_106 : decode b_Model_same 106 = .ok (.goto (-59), 3) := by decide +kernel
theorem d_Model_same_109 : decode b_Model_same 109 = .ok (.iload 5, 2) := by decide +kernel
theorem d_Model_same_111 : decode b_Model_same 111 = .ok (.ireturn, 1) := by decide +kernel
theorem d_Model_twin_0 : decode b_Model_twin 0 = .ok (.aload_n 0, 1) := by decide +kernel
theorem d_Model_twin_1 : decode b_Model_twin 1 = .ok (.invokevirtual 308, 3) := by decide +kernel
theorem d_Model_twin_4 : decode b_Model_twin 4 = .ok (.ifCond .ne 25, 3) := by decide +kernel
theorem d_Model_twin_7 : decode b_Model_twin 7 = .ok (.aload_n 0, 1) := by decide +kernel
theorem d_Model_twin_8 : decode b_Model_twin 8 = .ok (.aload_n 0, 1) := by decide +kernel
theorem d_Model_twin_9 : decode b_Model_twin 9 = .ok (.iload_n 1, 1) := by decide +kernel
theorem d_Model_twin_10 : decode b_Model_twin 10 = .ok (.iload_n 2, 1) := by decide +kernel
theorem d_Model_twin_11 : decode b_Model_twin 11 = .ok (.invokevirtual 257, 3) := by decide +kernel
theorem d_Model_twin_14 : decode b_Model_twin 14 = .ok (.ifCond .ne 7, 3) := by decide +kernel
theorem d_Model_twin_17 : decode b_Model_twin 17 = .ok (.iconst 1, 1) := by decide +kernel
theorem d_Model_twin_18 : decode b_Model_twin 18 = .ok (.goto 4, 3) := by decide +kernel
theorem d_Model_twin_21 : decode b_Model_twin 21 = .ok (.iconst 0, 1) := by decide +kernel
theorem d_Model_twin_22 : decode b_Model_twin 22 = .ok (.iconst 2, 1) := by decide +kernel
theorem d_Model_twin_23 : decode b_Model_twin 23 = .ok (.invokevirtual 301, 3) := by decide +kernel
theorem d_Model_twin_26 : decode b_Model_twin 26 = .ok (.ifCond .eq 5, 3) := by decide +kernel
theorem d_Model_twin_29 : decode b_Model_twin 29 = .ok (.iconst 0, 1) := by decide +kernel
theorem d_Model_twin_30 : decode b_Model_twin 30 = .ok (.ireturn, 1) := by decide +kernel
theorem d_Model_twin_31 : decode b_Model_twin 31 = .ok (.iconst 0, 1) := by decide +kernel
theorem d_Model_twin_32 : decode b_Model_twin 32 = .ok (.istore_n 3, 1) := by decide +kernel
theorem d_Model_twin_33 : decode b_Model_twin 33 = .ok (.iload_n 3, 1) := by decide +kernel
theorem d_Model_twin_34 : decode b_Model_twin 34 = .ok (.sipush 804, 3) := by decide +kernel
theorem d_Model_twin_37 : decode b_Model_twin 37 = .ok (.if_icmp .ge 29, 3) := by decide +kernel
theorem d_Model_twin_40 : decode b_Model_twin 40 = .ok (.aload_n 0, 1) := by decide +kernel
theorem d_Model_twin_41 : decode b_Model_twin 41 = .ok (.getfield 115, 3) := by decide +kernel
theorem d_Model_twin_44 : decode b_Model_twin 44 = .ok (.iload_n 3, 1) := by decide +kernel
theorem d_Model_twin_45 : decode b_Model_twin 45 = .ok (.aload_n 0, 1) := by decide +kernel
theorem d_Model_twin_46 : decode b_Model_twin 46 = .ok (.iload_n 3, 1) := by decide +kernel
theorem d_Model_twin_47 : decode b_Model_twin 47 = .ok (.sipush 402, 3) := by decide +kernel
theorem d_Model_twin_50 : decode b_Model_twin 50 = .ok (.idiv, 1) := by decide +kernel
theorem d_Model_twin_51 : decode b_Model_twin 51 = .ok (.iload_n 3, 1) := by decide +kernel
theorem d_Model_twin_52 : decode b_Model_twin 52 = .ok (.sipush 402, 3) := by decide +kernel
theorem d_Model_twin_55 : decode b_Model_twin 55 = .ok (.irem, 1) := by decide +kernel
theorem d_Model_twin_56 : decode b_Model_twin 56 = .ok (.invokevirtual 257, 3) := by decide +kernel
theorem d_Model_twin_59 : decode b_Model_twin 59 = .ok (.bastore, 1) := by decide +kernel
theorem d_Model_twin_60 : decode b_Model_twin 60 = .ok (.iinc 3 1, 3) := by decide +kernel
theorem d_Model_twin_63 : decode b_Model_twin 63 = .ok (.goto (-30), 3) := by decide +kernel
theorem d_Model_twin_66 : decode b_Model_twin 66 = .ok (.iconst 0, 1) := by decide +kernel
theorem d_Model_twin_67 : decode b_Model_twin 67 = .ok (.istore_n 3, 1) := by decide +kernel
theorem d_Model_twin_68 : decode b_Model_twin 68 = .ok (.iload_n 3, 1) := by decide +kernel
theorem d_Model_twin_69 : decode b_Model_twin 69 = .ok (.aload_n 0, 1) := by decide +kernel
theorem d_Model_twin_70 : decode b_Model_twin 70 = .ok (.getfield 286, 3) := by decide +kernel
theorem d_Model_twin_73 : decode b_Model_twin 73 = .ok (.if_icmp .ge 91, 3) := by decide +kernel
theorem d_Model_twin_76 : decode b_Model_twin 76 = .ok (.aload_n 0, 1) := by decide +kernel
theorem d_Model_twin_77 : decode b_Model_twin 77 = .ok (.aload_n 0, 1) := by decide +kernel
theorem d_Model_twin_78 : decode b_Model_twin 78 = .ok (.getfield 97, 3) := by decide +kernel
theorem d_Model_twin_81 : decode b_Model_twin 81 = .ok (.iload_n 3, 1) := by decide +kernel
theorem d_Model_twin_82 : decode b_Model_twin 82 = .ok (.iaload, 1) := by decide +kernel
theorem d_Model_twin_83 : decode b_Model_twin 83 = .ok (.invokevirtual 280, 3) := by decide +kernel
theorem d_Model_twin_86 : decode b_Model_twin 86 = .ok (.aload_n 0, 1) := by decide +kernel
theorem d_Model_twin_87 : decode b_Model_twin 87 = .ok (.iload_n 1, 1) := by decide +kernel
theorem d_Model_twin_88 : decode b_Model_twin 88 = .ok (.iload_n 2, 1) := by decide +kernel
theorem d_Model_twin_89 : decode b_Model_twin 89 = .ok (.invokevirtual 253, 3) := by decide +kernel
theorem d_Model_twin_92 : decode b_Model_twin 92 = .ok (.lstore 4, 2) := by decide +kernel
theorem d_Model_twin_94 : decode b_Model_twin 94 = .ok (.iconst 0, 1) := by decide +kernel
theorem d_Model_twin_95 : decode b_Model_twin 95 = .ok (.istore 6, 2) := by decide +kernel
theorem d_Model_twin_97 : decode b_Model_twin 97 = .ok (.iload 6, 2) := by decide +kernel
theorem d_Model_twin_99 : decode b_Model_twin 99 = .ok (.sipush 804, 3) := by decide +kernel
theorem d_Model_twin_102 : decode b_Model_twin 102 = .ok (.if_icmp .ge 56, 3) := by decide +kernel
theorem d_Model_twin_105 : decode b_Model_twin 105 = .ok (.aload_n 0, 1) := by decide +kernel
theorem d_Model_twin_106 : decode b_Model_twin 106 = .ok (.getfield 115, 3) := by decide +kernel
theorem d_Model_twin_109 : decode b_Model_twin 109 = .ok (.iload 6, 2) := by decide +kernel
theorem d_Model_twin_111 : decode b_Model_twin 111 = .ok (.baload, 1) := by decide +kernel
theorem d_Model_twin_112 : decode b_Model_twin 112 = .ok (.ifCond .eq 40, 3) := by decide +kernel
theorem d_Model_twin_115 : decode b_Model_twin 115 = .ok (.aload_n 0, 1) := by decide +kernel
theorem d_Model_twin_116 : decode b_Model_twin 116 = .ok (.iload 6, 2) := by decide +kernel
theorem d_Model_twin_118 : decode b_Model_twin 118 = .ok (.sipush 402, 3) := by decide +kernel
theorem d_Model_twin_121 : decode b_Model_twin 121 = .ok (.idiv, 1) := by decide +kernel
theorem d_Model_twin_122 : decode b_Model_twin 122 = .ok (.iload 6, 2) := by decide +kernel
theorem d_Model_twin_124 : decode b_Model_twin 124 = .ok (.sipush 402, 3) := by decide +kernel
theorem d_Model_twin_127 : decode b_Model_twin 127 = .ok (.irem, 1) := by decide +kernel
theorem d_Model_twin_128 : decode b_Model_twin 128 = .ok (.invokevirtual 253, 3) := by decide +kernel
theorem d_Model_twin_131 : decode b_Model_twin 131 = .ok (.lload 4, 2) := by decide +kernel
theorem d_Model_twin_133 : decode b_Model_twin 133 = .ok (.lxor, 1) := by decide +kernel
theorem d_Model_twin_134 : decode b_Model_twin 134 = .ok (.aload_n 0, 1) := by decide +kernel
theorem d_Model_twin_135 : decode b_Model_twin 135 = .ok (.invokevirtual 270, 3) := by decide +kernel
theorem d_Model_twin_138 : decode b_Model_twin 138 = .ok (.land, 1) := by decide +kernel
theorem d_Model_twin_139 : decode b_Model_twin 139 = .ok (.lconst 0, 1) := by decide +kernel
theorem d_Model_twin_140 : decode b_Model_twin 140 = .ok (.lcmp, 1) := by decide +kernel
theorem d_Model_twin_141 : decode b_Model_twin 141 = .ok (.ifCond .eq 11, 3) := by decide +kernel
theorem d_Model_twin_144 : decode b_Model_twin 144 = .ok (.aload_n 0, 1) := by decide +kernel
theorem d_Model_twin_145 : decode b_Model_twin 145 = .ok (.getfield 115, 3) := by decide +kernel
theorem d_Model_twin_148 : decode b_Model_twin 148 = .ok (.iload 6, 2) := by decide +kernel
theorem d_Model_twin_150 : decode b_Model_twin 150 = .ok (.iconst 0, 1) := by decide +kernel
theorem d_Model_twin_151 : decode b_Model_twin 151 = .ok (.bastore, 1) := by decide +kernel
theorem d_Model_twin_152 : decode b_Model_twin 152 = .ok (.iinc 6 1, 3) := by decide +kernel
theorem d_Model_twin_155 : decode b_Model_twin 155 = .ok (.goto (-58), 3) := by decide +kernel
theorem d_Model_twin_158 : decode b_Model_twin 158 = .ok (.iinc 3 1, 3) := by decide +kernel
theorem d_Model_twin_161 : decode b_Model_twin 161 = .ok (.goto (-93), 3) := by decide +kernel
theorem d_Model_twin_164 : decode b_Model_twin 164 = .ok (.iconst 0, 1) := by decide +kernel
theorem d_Model_twin_165 : decode b_Model_twin 165 = .ok (.istore_n 3, 1) := by decide +kernel
theorem d_Model_twin_166 : decode b_Model_twin 166 = .ok (.aload_n 0, 1) := by decide +kernel
theorem d_Model_twin_167 : decode b_Model_twin 167 = .ok (.getfield 115, 3) := by decide +kernel
theorem d_Model_twin_170 : decode b_Model_twin 170 = .ok (.iload_n 3, 1) := by decide +kernel
theorem d_Model_twin_171 : decode b_Model_twin 171 = .ok (.baload, 1) := by decide +kernel
theorem d_Model_twin_172 : decode b_Model_twin 172 = .ok (.ifCond .ne 9, 3) := by decide +kernel
theorem d_Model_twin_175 : decode b_Model_twin 175 = .ok (.iinc 3 1, 3) := by decide +kernel
theorem d_Model_twin_178 : decode b_Model_twin 178 = .ok (.goto (-12), 3) := by decide +kernel
theorem d_Model_twin_181 : decode b_Model_twin 181 = .ok (.iload_n 3, 1) := by decide +kernel
theorem d_Model_twin_182 : decode b_Model_twin 182 = .ok (.sipush 402, 3) := by decide +kernel
theorem d_Model_twin_185 : decode b_Model_twin 185 = .ok (.if_icmp .ge 7, 3) := by decide +kernel
theorem d_Model_twin_188 : decode b_Model_twin 188 = .ok (.iload_n 3, 1) := by decide +kernel
theorem d_Model_twin_189 : decode b_Model_twin 189 = .ok (.goto 12, 3) := by decide +kernel
theorem d_Model_twin_192 : decode b_Model_twin 192 = .ok (.sipush 1000, 3) := by decide +kernel
theorem d_Model_twin_195 : decode b_Model_twin 195 = .ok (.iload_n 3, 1) := by decide +kernel
theorem d_Model_twin_196 : decode b_Model_twin 196 = .ok (.iadd, 1) := by decide +kernel
theorem d_Model_twin_197 : decode b_Model_twin 197 = .ok (.sipush 402, 3) := by decide +kernel
theorem d_Model_twin_200 : decode b_Model_twin 200 = .ok (.isub, 1) := by decide +kernel
theorem d_Model_twin_201 : decode b_Model_twin 201 = .ok (.ireturn, 1) := by decide +kernel
theorem d_Model_doubts_0 : decode b_Model_doubts 0 = .ok (.aload_n 0, 1) := by decide +kernel
theorem d_Model_doubts_1 : decode b_Model_doubts 1 = .ok (.iconst 0, 1) := by decide +kernel
theorem d_Model_doubts_2 : decode b_Model_doubts 2 = .ok (.putfield 127, 3) := by decide +kernel
theorem d_Model_doubts_5 : decode b_Model_doubts 5 = .ok (.iconst 0, 1) := by decide +kernel
theorem d_Model_doubts_6 : decode b_Model_doubts 6 = .ok (.ireturn, 1) := by decide +kernel
theorem d_Model_signal_0 : decode b_Model_signal 0 = .ok (.aload_n 0, 1) := by decide +kernel
theorem d_Model_signal_1 : decode b_Model_signal 1 = .ok (.getfield 118, 3) := by decide +kernel
theorem d_Model_signal_4 : decode b_Model_signal 4 = .ok (.sipush 201, 3) := by decide +kernel
theorem d_Model_signal_7 : decode b_Model_signal 7 = .ok (.iload_n 1, 1) := by decide +kernel
theorem d_Model_signal_8 : decode b_Model_signal 8 = .ok (.imul, 1) := by decide +kernel
theorem d_Model_signal_9 : decode b_Model_signal 9 = .ok (.iload_n 2, 1) := by decide +kernel
theorem d_Model_signal_10 : decode b_Model_signal 10 = .ok (.iconst 2, 1) := by decide +kernel
theorem d_Model_signal_11 : decode b_Model_signal 11 = .ok (.idiv, 1) := by decide +kernel
theorem d_Model_signal_12 : decode b_Model_signal 12 = .ok (.iadd, 1) := by decide +kernel
theorem d_Model_signal_13 : decode b_Model_signal 13 = .ok (.iaload, 1) := by decide +kernel
theorem d_Model_signal_14 : decode b_Model_signal 14 = .ok (.iload_n 2, 1) := by decide +kernel
theorem d_Model_signal_15 : decode b_Model_signal 15 = .ok (.iconst 2, 1) := by decide +kernel
theorem d_Model_signal_16 : decode b_Model_signal 16 = .ok (.irem, 1) := by decide +kernel
theorem d_Model_signal_17 : decode b_Model_signal 17 = .ok (.ixor, 1) := by decide +kernel
theorem d_Model_signal_18 : decode b_Model_signal 18 = .ok (.ireturn, 1) := by decide +kernel
theorem d_Model_gate_0 : decode b_Model_gate 0 = .ok (.iload_n 1, 1) := by decide +kernel
theorem d_Model_gate_1 : decode b_Model_gate 1 = .ok (.ifCond .eq 14, 3) := by decide +kernel
theorem d_Model_gate_4 : decode b_Model_gate 4 = .ok (.iload_n 2, 1) := by decide +kernel
theorem d_Model_gate_5 : decode b_Model_gate 5 = .ok (.ifCond .eq 10, 3) := by decide +kernel
theorem d_Model_gate_8 : decode b_Model_gate 8 = .ok (.iload_n 1, 1) := by decide +kernel
theorem d_Model_gate_9 : decode b_Model_gate 9 = .ok (.iload_n 2, 1) := by decide +kernel
theorem d_Model_gate_10 : decode b_Model_gate 10 = .ok (.ixor, 1) := by decide +kernel
theorem d_Model_gate_11 : decode b_Model_gate 11 = .ok (.iconst 1, 1) := by decide +kernel
theorem d_Model_gate_12 : decode b_Model_gate 12 = .ok (.if_icmp .ne 5, 3) := by decide +kernel
theorem d_Model_gate_15 : decode b_Model_gate 15 = .ok (.iconst 0, 1) := by decide +kernel
theorem d_Model_gate_16 : decode b_Model_gate 16 = .ok (.ireturn, 1) := by decide +kernel
theorem d_Model_gate_17 : decode b_Model_gate 17 = .ok (.iload_n 1, 1) := by decide +kernel
theorem d_Model_gate_18 : decode b_Model_gate 18 = .ok (.iconst 1, 1) := by decide +kernel
theorem d_Model_gate_19 : decode b_Model_gate 19 = .ok (.if_icmp .eq 8, 3) := by decide +kernel
theorem d_Model_gate_22 : decode b_Model_gate 22 = .ok (.iload_n 1, 1) := by decide +kernel
theorem d_Model_gate_23 : decode b_Model_gate 23 = .ok (.iload_n 2, 1) := by decide +kernel
theorem d_Model_gate_24 : decode b_Model_gate 24 = .ok (.if_icmp .ne 5, 3) := by decide +kernel
theorem d_Model_gate_27 : decode b_Model_gate 27 = .ok (.iload_n 2, 1) := by decide +kernel
theorem d_Model_gate_28 : decode b_Model_gate 28 = .ok (.ireturn, 1) := by decide +kernel
theorem d_Model_gate_29 : decode b_Model_gate 29 = .ok (.iload_n 2, 1) := by decide +kernel
theorem d_Model_gate_30 : decode b_Model_gate 30 = .ok (.iconst 1, 1) := by decide +kernel
theorem d_Model_gate_31 : decode b_Model_gate 31 = .ok (.if_icmp .ne 5, 3) := by decide +kernel
theorem d_Model_gate_34 : decode b_Model_gate 34 = .ok (.iload_n 1, 1) := by decide +kernel
theorem d_Model_gate_35 : decode b_Model_gate 35 = .ok (.ireturn, 1) := by decide +kernel
theorem d_Model_gate_36 : decode b_Model_gate 36 = .ok (.iconst 0, 1) := by decide +kernel
theorem d_Model_gate_37 : decode b_Model_gate 37 = .ok (.istore 4, 2) := by decide +kernel
theorem d_Model_gate_39 : decode b_Model_gate 39 = .ok (.iload 4, 2) := by decide +kernel
theorem d_Model_gate_41 : decode b_Model_gate 41 = .ok (.aload_n 0, 1) := by decide +kernel
theorem d_Model_gate_42 : decode b_Model_gate 42 = .ok (.getfield 311, 3) := by decide +kernel
theorem d_Model_gate_45 : decode b_Model_gate 45 = .ok (.if_icmp .ge 60, 3) := by decide +kernel
theorem d_Model_gate_48 : decode b_Model_gate 48 = .ok (.aload_n 0, 1) := by decide +kernel
theorem d_Model_gate_49 : decode b_Model_gate 49 = .ok (.getfield 121, 3) := by decide +kernel
theorem d_Model_gate_52 : decode b_Model_gate 52 = .ok (.iload 4, 2) := by decide +kernel
theorem d_Model_gate_54 : decode b_Model_gate 54 = .ok (.iaload, 1) := by decide +kernel
theorem d_Model_gate_55 : decode b_Model_gate 55 = .ok (.iload_n 1, 1) := by decide +kernel
theorem d_Model_gate_56 : decode b_Model_gate 56 = .ok (.if_icmp .ne 14, 3) := by decide +kernel
theorem d_Model_gate_59 : decode b_Model_gate 59 = .ok (.aload_n 0, 1) := by decide +kernel
theorem d_Model_gate_60 : decode b_Model_gate 60 = .ok (.getfield 124, 3) := by decide +kernel
theorem d_Model_gate_63 : decode b_Model_gate 63 = .ok (.iload 4, 2) := by decide +kernel
theorem d_Model_gate_65 : decode b_Model_gate 65 = .ok (.iaload, 1) := by decide +kernel
theorem d_Model_gate_66 : decode b_Model_gate 66 = .ok (.iload_n 2, 1) := by decide +kernel
theorem d_Model_gate_67 : decode b_Model_gate 67 = .ok (.if_icmp .eq 25, 3) := by decide +kernel
theorem d_Model_gate_70 : decode b_Model_gate 70 = .ok (.aload_n 0, 1) := by decide +kernel
theorem d_Model_gate_71 : decode b_Model_gate 71 = .ok (.getfield 121, 3) := by decide +kernel
theorem d_Model_gate_74 : decode b_Model_gate 74 = .ok (.iload 4, 2) := by decide +kernel
theorem d_Model_gate_76 : decode b_Model_gate 76 = .ok (.iaload, 1) := by decide +kernel
theorem d_Model_gate_77 : decode b_Model_gate 77 = .ok (.iload_n 2, 1) := by decide +kernel
theorem d_Model_gate_78 : decode b_Model_gate 78 = .ok (.if_icmp .ne 21, 3) := by decide +kernel
theorem d_Model_gate_81 : decode b_Model_gate 81 = .ok (.aload_n 0, 1) := by decide +kernel
theorem d_Model_gate_82 : decode b_Model_gate 82 = .ok (.getfield 124, 3) := by decide +kernel
theorem d_Model_gate_85 : decode b_Model_gate 85 = .ok (.iload 4, 2) := by decide +kernel
theorem d_Model_gate_87 : decode b_Model_gate 87 = .ok (.iaload, 1) := by decide +kernel
theorem d_Model_gate_88 : decode b_Model_gate 88 = .ok (.iload_n 1, 1) := by decide +kernel
theorem d_Model_gate_89 : decode b_Model_gate 89 = .ok (.if_icmp .ne 10, 3) := by decide +kernel
theorem d_Model_gate_92 : decode b_Model_gate 92 = .ok (.iconst 2, 1) := by decide +kernel
theorem d_Model_gate_93 : decode b_Model_gate 93 = .ok (.iload_n 3, 1) := by decide +kernel
theorem d_Model_gate_94 : decode b_Model_gate 94 = .ok (.iload 4, 2) := by decide +kernel
theorem d_Model_gate_96 : decode b_Model_gate 96 = .ok (.iadd, 1) := by decide +kernel
theorem d_Model_gate_97 : decode b_Model_gate 97 = .ok (.imul, 1) := by decide +kernel
theorem d_Model_gate_98 : decode b_Model_gate 98 = .ok (.ireturn, 1) := by decide +kernel
theorem d_Model_gate_99 : decode b_Model_gate 99 = .ok (.iinc 4 1, 3) := by decide +kernel
theorem d_Model_gate_102 : decode b_Model_gate 102 = .ok (.goto (-63), 3) := by decide +kernel
theorem d_Model_gate_105 : decode b_Model_gate 105 = .ok (.aload_n 0, 1) := by decide +kernel
theorem d_Model_gate_106 : decode b_Model_gate 106 = .ok (.getfield 121, 3) := by decide +kernel
theorem d_Model_gate_109 : decode b_Model_gate 109 = .ok (.aload_n 0, 1) := by decide +kernel
theorem d_Model_gate_110 : decode b_Model_gate 110 = .ok (.getfield 311, 3) := by decide +kernel
theorem d_Model_gate_113 : decode b_Model_gate 113 = .ok (.iload_n 1, 1) := by decide +kernel
theorem d_Model_gate_114 : decode b_Model_gate 114 = .ok (.iastore, 1) := by decide +kernel
theorem d_Model_gate_115 : decode b_Model_gate 115 = .ok (.aload_n 0, 1) := by decide +kernel
theorem d_Model_gate_116 : decode b_Model_gate 116 = .ok (.getfield 124, 3) := by decide +kernel
theorem d_Model_gate_119 : decode b_Model_gate 119 = .ok (.aload_n 0, 1) := by decide +kernel
theorem d_Model_gate_120 : decode b_Model_gate 120 = .ok (.getfield 311, 3) := by decide +kernel
theorem d_Model_gate_123 : decode b_Model_gate 123 = .ok (.iload_n 2, 1) := by decide +kernel
theorem d_Model_gate_124 : decode b_Model_gate 124 = .ok (.iastore, 1) := by decide +kernel
theorem d_Model_gate_125 : decode b_Model_gate 125 = .ok (.aload_n 0, 1) := by decide +kernel
theorem d_Model_gate_126 : decode b_Model_gate 126 = .ok (.dup, 1) := by decide +kernel
theorem d_Model_gate_127 : decode b_Model_gate 127 = .ok (.getfield 311, 3) := by decide +kernel
theorem d_Model_gate_130 : decode b_Model_gate 130 = .ok (.iconst 1, 1) := by decide +kernel
theorem d_Model_gate_131 : decode b_Model_gate 131 = .ok (.iadd, 1) := by decide +kernel
theorem d_Model_gate_132 : decode b_Model_gate 132 = .ok (.putfield 311, 3) := by decide +kernel
theorem d_Model_gate_135 : decode b_Model_gate 135 = .ok (.iconst 2, 1) := by decide +kernel
theorem d_Model_gate_136 : decode b_Model_gate 136 = .ok (.iload_n 3, 1) := by decide +kernel
theorem d_Model_gate_137 : decode b_Model_gate 137 = .ok (.aload_n 0, 1) := by decide +kernel
theorem d_Model_gate_138 : decode b_Model_gate 138 = .ok (.getfield 311, 3) := by decide +kernel
theorem d_Model_gate_141 : decode b_Model_gate 141 = .ok (.iadd, 1) := by decide +kernel
theorem d_Model_gate_142 : decode b_Model_gate 142 = .ok (.iconst 1, 1) := by decide +kernel
theorem d_Model_gate_143 : decode b_Model_gate 143 = .ok (.isub, 1) := by decide +kernel
theorem d_Model_gate_144 : decode b_Model_gate 144 = .ok (.imul, 1) := by decide +kernel
theorem d_Model_gate_145 : decode b_Model_gate 145 = .ok (.ireturn, 1) := by decide +kernel
theorem d_Model_gates_0 : decode b_Model_gates 0 = .ok (.aload_n 0, 1) := by decide +kernel
theorem d_Model_gates_1 : decode b_Model_gates 1 = .ok (.invokevirtual 308, 3) := by decide +kernel
theorem d_Model_gates_4 : decode b_Model_gates 4 = .ok (.ifCond .eq 5, 3) := by decide +kernel
theorem d_Model_gates_7 : decode b_Model_gates 7 = .ok (.iconst 0, 1) := by decide +kernel
theorem d_Model_gates_8 : decode b_Model_gates 8 = .ok (.ireturn, 1) := by decide +kernel
theorem d_Model_gates_9 : decode b_Model_gates 9 = .ok (.aload_n 0, 1) := by decide +kernel
theorem d_Model_gates_10 : decode b_Model_gates 10 = .ok (.iconst 0, 1) := by decide +kernel
theorem d_Model_gates_11 : decode b_Model_gates 11 = .ok (.putfield 311, 3) := by decide +kernel
theorem d_Model_gates_14 : decode b_Model_gates 14 = .ok (.iconst 1, 1) := by decide +kernel
theorem d_Model_gates_15 : decode b_Model_gates 15 = .ok (.aload_n 0, 1) := by decide +kernel
theorem d_Model_gates_16 : decode b_Model_gates 16 = .ok (.getfield 20, 3) := by decide +kernel
theorem d_Model_gates_19 : decode b_Model_gates 19 = .ok (.iconst 1, 1) := by decide +kernel
theorem d_Model_gates_20 : decode b_Model_gates 20 = .ok (.iaload, 1) := by decide +kernel
theorem d_Model_gates_21 : decode b_Model_gates 21 = .ok (.iadd, 1) := by decide +kernel
theorem d_Model_gates_22 : decode b_Model_gates 22 = .ok (.aload_n 0, 1) := by decide +kernel
theorem d_Model_gates_23 : decode b_Model_gates 23 = .ok (.getfield 20, 3) := by decide +kernel
theorem d_Model_gates_26 : decode b_Model_gates 26 = .ok (.iconst 2, 1) := by decide +kernel
theorem d_Model_gates_27 : decode b_Model_gates 27 = .ok (.iaload, 1) := by decide +kernel
theorem d_Model_gates_28 : decode b_Model_gates 28 = .ok (.iadd, 1) := by decide +kernel
theorem d_Model_gates_29 : decode b_Model_gates 29 = .ok (.aload_n 0, 1) := by decide +kernel
theorem d_Model_gates_30 : decode b_Model_gates 30 = .ok (.getfield 20, 3) := by decide +kernel
theorem d_Model_gates_33 : decode b_Model_gates 33 = .ok (.bipush 7, 2) := by decide +kernel
theorem d_Model_gates_35 : decode b_Model_gates 35 = .ok (.iaload, 1) := by decide +kernel
theorem d_Model_gates_36 : decode b_Model_gates 36 = .ok (.iadd, 1) := by decide +kernel
theorem d_Model_gates_37 : decode b_Model_gates 37 = .ok (.istore_n 1, 1) := by decide +kernel
theorem d_Model_gates_38 : decode b_Model_gates 38 = .ok (.iconst 0, 1) := by decide +kernel
theorem d_Model_gates_39 : decode b_Model_gates 39 = .ok (.istore_n 2, 1) := by decide +kernel
theorem d_Model_gates_40 : decode b_Model_gates 40 = .ok (.iload_n 2, 1) := by decide +kernel
theorem d_Model_gates_41 : decode b_Model_gates 41 = .ok (.iconst 2, 1) := by decide +kernel
theorem d_Model_gates_42 : decode b_Model_gates 42 = .ok (.if_icmp .ge 230, 3) := by decide +kernel
theorem d_Model_gates_45 : decode b_Model_gates 45 = .ok (.aload_n 0, 1) := by decide +kernel
theorem d_Model_gates_46 : decode b_Model_gates 46 = .ok (.getfield 118, 3) := by decide +kernel
theorem d_Model_gates_49 : decode b_Model_gates 49 = .ok (.sipush 201, 3) := by decide +kernel
theorem d_Model_gates_52 : decode b_Model_gates 52 = .ok (.iload_n 2, 1) := by decide +kernel
theorem d_Model_gates_53 : decode b_Model_gates 53 = .ok (.imul, 1) := by decide +kernel
theorem d_Model_gates_54 : decode b_Model_gates 54 = .ok (.iconst 0, 1) := by decide +kernel
theorem d_Model_gates_55 : decode b_Model_gates 55 = .ok (.iastore, 1) := by decide +kernel
theorem d_Model_gates_56 : decode b_Model_gates 56 = .ok (.iconst 0, 1) := by decide +kernel
theorem d_Model_gates_57 : decode b_Model_gates 57 = .ok (.istore_n 3, 1) := by decide +kernel
theorem d_Model_gates_58 : decode b_Model_gates 58 = .ok (.iload_n 3, 1) := by decide +kernel
theorem d_Model_gates_59 : decode b_Model_gates 59 = .ok (.aload_n 0, 1) := by decide +kernel
theorem d_Model_gates_60 : decode b_Model_gates 60 = .ok (.getfield 20, 3) := by decide +kernel
theorem d_Model_gates_63 : decode b_Model_gates 63 = .ok (.iconst 1, 1) := by decide +kernel
theorem d_Model_gates_64 : decode b_Model_gates 64 = .ok (.iaload, 1) := by decide +kernel
theorem d_Model_gates_65 : decode b_Model_gates 65 = .ok (.if_icmp .ge 37, 3) := by decide +kernel
theorem d_Model_gates_68 : decode b_Model_gates 68 = .ok (.aload_n 0, 1) := by decide +kernel
theorem d_Model_gates_69 : decode b_Model_gates 69 = .ok (.getfield 118, 3) := by decide +kernel
theorem d_Model_gates_72 : decode b_Model_gates 72 = .ok (.sipush 201, 3) := by decide +kernel
theorem d_Model_gates_75 : decode b_Model_gates 75 = .ok (.iload_n 2, 1) := by decide +kernel
theorem d_Model_gates_76 : decode b_Model_gates 76 = .ok (.imul, 1) := by decide +kernel
theorem d_Model_gates_77 : decode b_Model_gates 77 = .ok (.aload_n 0, 1) := by decide +kernel
theorem d_Model_gates_78 : decode b_Model_gates 78 = .ok (.getfield 24, 3) := by decide +kernel
theorem d_Model_gates_81 : decode b_Model_gates 81 = .ok (.iconst 5, 1) := by decide +kernel
theorem d_Model_gates_82 : decode b_Model_gates 82 = .ok (.iload_n 2, 1) := by decide +kernel
theorem d_Model_gates_83 : decode b_Model_gates 83 = .ok (.imul, 1) := by decide +kernel
theorem d_Model_gates_84 : decode b_Model_gates 84 = .ok (.iload_n 3, 1) := by decide +kernel
theorem d_Model_gates_85 : decode b_Model_gates 85 = .ok (.iadd, 1) := by decide +kernel
theorem d_Model_gates_86 : decode b_Model_gates 86 = .ok (.iaload, 1) := by decide +kernel
theorem d_Model_gates_87 : decode b_Model_gates 87 = .ok (.iconst 2, 1) := by decide +kernel
theorem d_Model_gates_88 : decode b_Model_gates 88 = .ok (.idiv, 1) := by decide +kernel
theorem d_Model_gates_89 : decode b_Model_gates 89 = .ok (.iadd, 1) := by decide +kernel
theorem d_Model_gates_90 : decode b_Model_gates 90 = .ok (.iconst 2, 1) := by decide +kernel
theorem d_Model_gates_91 : decode b_Model_gates 91 = .ok (.iconst 1, 1) := by decide +kernel
theorem d_Model_gates_92 : decode b_Model_gates 92 = .ok (.iload_n 3, 1) := by decide +kernel
theorem d_Model_gates_93 : decode b_Model_gates 93 = .ok (.iadd, 1) := by decide +kernel
theorem d_Model_gates_94 : decode b_Model_gates 94 = .ok (.imul, 1) := by decide +kernel
theorem d_Model_gates_95 : decode b_Model_gates 95 = .ok (.iastore, 1) := by decide +kernel
theorem d_Model_gates_96 : decode b_Model_gates 96 = .ok (.iinc 3 1, 3) := by decide +kernel
theorem d_Model_gates_99 : decode b_Model_gates 99 = .ok (.goto (-41), 3) := by decide +kernel
theorem d_Model_gates_102 : decode b_Model_gates 102 = .ok (.iconst 0, 1) := by decide +kernel
theorem d_Model_gates_103 : decode b_Model_gates 103 = .ok (.istore_n 3, 1) := by decide +kernel
theorem d_Model_gates_104 : decode b_Model_gates 104 = .ok (.iload_n 3, 1) := by decide +kernel
theorem d_Model_gates_105 : decode b_Model_gates 105 = .ok (.aload_n 0, 1) := by decide +kernel
theorem d_Model_gates_106 : decode b_Model_gates 106 = .ok (.getfield 20, 3) := by decide +kernel
theorem d_Model_gates_109 : decode b_Model_gates 109 = .ok (.iconst 5, 1) := by decide +kernel
theorem d_Model_gates_110 : decode b_Model_gates 110 = .ok (.iload_n 2, 1) := by decide +kernel
theorem d_Model_gates_111 : decode b_Model_gates 111 = .ok (.imul, 1) := by decide +kernel
theorem d_Model_gates_112 : decode b_Model_gates 112 = .ok (.iconst 2, 1) := by decide +kernel
theorem d_Model_gates_113 : decode b_Model_gates 113 = .ok (.iadd, 1) := by decide +kernel
theorem d_Model_gates_114 : decode b_Model_gates 114 = .ok (.iaload, 1) := by decide +kernel
theorem d_Model_gates_115 : decode b_Model_gates 115 = .ok (.if_icmp .ge 60, 3) := by decide +kernel
theorem d_Model_gates_118 : decode b_Model_gates 118 = .ok (.aload_n 0, 1) := by decide +kernel
theorem d_Model_gates_119 : decode b_Model_gates 119 = .ok (.getfield 118, 3) := by decide +kernel
theorem d_Model_gates_122 : decode b_Model_gates 122 = .ok (.sipush 201, 3) := by decide +kernel
theorem d_Model_gates_125 : decode b_Model_gates 125 = .ok (.iload_n 2, 1) := by decide +kernel
theorem d_Model_gates_126 : decode b_Model_gates 126 = .ok (.imul, 1) := by decide +kernel
theorem d_Model_gates_127 : decode b_Model_gates 127 = .ok (.aload_n 0, 1) := by decide +kernel
theorem d_Model_gates_128 : decode b_Model_gates 128 = .ok (.getfield 27, 3) := by decide +kernel
theorem d_Model_gates_131 : decode b_Model_gates 131 = .ok (.bipush 7, 2) := by decide +kernel
theorem d_Model_gates_133 : decode b_Model_gates 133 = .ok (.iload_n 2, 1) := by decide +kernel
theorem d_Model_gates_134 : decode b_Model_gates 134 = .ok (.imul, 1) := by decide +kernel
theorem d_Model_gates_135 : decode b_Model_gates 135 = .ok (.iload_n 3, 1) := by decide +kernel
theorem d_Model_gates_136 : decode b_Model_gates 136 = .ok (.iadd, 1) := by decide +kernel
theorem d_Model_gates_137 : decode b_Model_gates 137 = .ok (.iaload, 1) := by decide +kernel
theorem d_Model_gates_138 : decode b_Model_gates 138 = .ok (.iconst 2, 1) := by decide +kernel
theorem d_Model_gates_139 : decode b_Model_gates 139 = .ok (.idiv, 1) := by decide +kernel
theorem d_Model_gates_140 : decode b_Model_gates 140 = .ok (.iadd, 1) := by decide +kernel
theorem d_Model_gates_141 : decode b_Model_gates 141 = .ok (.iconst 2, 1) := by decide +kernel
theorem d_Model_gates_142 : decode b_Model_gates 142 = .ok (.iconst 1, 1) := by decide +kernel
theorem d_Model_gates_143 : decode b_Model_gates 143 = .ok (.aload_n 0, 1) := by decide +kernel
theorem d_Model_gates_144 : decode b_Model_gates 144 = .ok (.getfield 20, 3) := by decide +kernel
theorem d_Model_gates_147 : decode b_Model_gates 147 = .ok (.iconst 1, 1) := by decide +kernel
theorem d_Model_gates_148 : decode b_Model_gates 148 = .ok (.iaload, 1) := by decide +kernel
theorem d_Model_gates_149 : decode b_Model_gates 149 = .ok (.iadd, 1) := by decide +kernel
theorem d_Model_gates_150 : decode b_Model_gates 150 = .ok (.iload_n 2, 1) := by decide +kernel
theorem d_Model_gates_151 : decode b_Model_gates 151 = .ok (.ifCond .ne 7, 3) := by decide +kernel
theorem d_Model_gates_154 : decode b_Model_gates 154 = .ok (.iconst 0, 1) := by decide +kernel
theorem d_Model_gates_155 : decode b_Model_gates 155 = .ok (.goto 9, 3) := by decide +kernel
theorem d_Model_gates_158 : decode b_Model_gates 158 = .ok (.aload_n 0, 1) := by decide +kernel
theorem d_Model_gates_159 : decode b_Model_gates 159 = .ok (.getfield 20, 3) := by decide +kernel
theorem d_Model_gates_162 : decode b_Model_gates 162 = .ok (.iconst 2, 1) := by decide +kernel
theorem d_Model_gates_163 : decode b_Model_gates 163 = .ok (.iaload, 1) := by decide +kernel
theorem d_Model_gates_164 : decode b_Model_gates 164 = .ok (.iadd, 1) := by decide +kernel
theorem d_Model_gates_165 : decode b_Model_gates 165 = .ok (.iload_n 3, 1) := by decide +kernel
theorem d_Model_gates_166 : decode b_Model_gates 166 = .ok (.iadd, 1) := by decide +kernel
theorem d_Model_gates_167 : decode b_Model_gates 167 = .ok (.imul, 1) := by decide +kernel
theorem d_Model_gates_168 : decode b_Model_gates 168 = .ok (.iastore, 1) := by decide +kernel
theorem d_Model_gates_169 : decode b_Model_gates 169 = .ok (.iinc 3 1, 3) := by decide +kernel
theorem d_Model_gates_172 : decode b_Model_gates 172 = .ok (.goto (-68), 3) := by decide +kernel
theorem d_Model_gates_175 : decode b_Model_gates 175 = .ok (.iconst 0, 1) := by decide +kernel
theorem d_Model_gates_176 : decode b_Model_gates 176 = .ok (.istore_n 3, 1) := by decide +kernel
theorem d_Model_gates_177 : decode b_Model_gates 177 = .ok (.iload_n 3, 1) := by decide +kernel
theorem d_Model_gates_178 : decode b_Model_gates 178 = .ok (.aload_n 0, 1) := by decide +kernel
theorem d_Model_gates_179 : decode b_Model_gates 179 = .ok (.getfield 20, 3) := by decide +kernel
theorem d_Model_gates_182 : decode b_Model_gates 182 = .ok (.iconst 5, 1) := by decide +kernel
theorem d_Model_gates_183 : decode b_Model_gates 183 = .ok (.iload_n 2, 1) := by decide +kernel
theorem d_Model_gates_184 : decode b_Model_gates 184 = .ok (.imul, 1) := by decide +kernel
theorem d_Model_gates_185 : decode b_Model_gates 185 = .ok (.iconst 4, 1) := by decide +kernel
theorem d_Model_gates_186 : decode b_Model_gates 186 = .ok (.iadd, 1) := by decide +kernel
theorem d_Model_gates_187 : decode b_Model_gates 187 = .ok (.iaload, 1) := by decide +kernel
theorem d_Model_gates_188 : decode b_Model_gates 188 = .ok (.if_icmp .ge 78, 3) := by decide +kernel
theorem d_Model_gates_191 : decode b_Model_gates 191 = .ok (.sipush 150, 3) := by decide +kernel
theorem d_Model_gates_194 : decode b_Model_gates 194 = .ok (.iload_n 2, 1) := by decide +kernel
theorem d_Model_gates_195 : decode b_Model_gates 195 = .ok (.imul, 1) := by decide +kernel
theorem d_Model_gates_196 : decode b_Model_gates 196 = .ok (.aload_n 0, 1) := by decide +kernel
theorem d_Model_gates_197 : decode b_Model_gates 197 = .ok (.getfield 72, 3) := by decide +kernel
theorem d_Model_gates_200 : decode b_Model_gates 200 = .ok (.sipush 150, 3) := by decide +kernel
theorem d_Model_gates_203 : decode b_Model_gates 203 = .ok (.iload_n 2, 1) := by decide +kernel
theorem d_Model_gates_204 : decode b_Model_gates 204 = .ok (.imul, 1) := by decide +kernel
theorem d_Model_gates_205 : decode b_Model_gates 205 = .ok (.iload_n 3, 1) := by decide +kernel
theorem d_Model_gates_206 : decode b_Model_gates 206 = .ok (.iadd, 1) := by decide +kernel
theorem d_Model_gates_207 : decode b_Model_gates 207 = .ok (.iaload, 1) := by decide +kernel
theorem d_Model_gates_208 : decode b_Model_gates 208 = .ok (.iadd, 1) := by decide +kernel
theorem d_Model_gates_209 : decode b_Model_gates 209 = .ok (.istore 4, 2) := by decide +kernel
theorem d_Model_gates_211 : decode b_Model_gates 211 = .ok (.aload_n 0, 1) := by decide +kernel
theorem d_Model_gates_212 : decode b_Model_gates 212 = .ok (.getfield 118, 3) := by decide +kernel
theorem d_Model_gates_215 : decode b_Model_gates 215 = .ok (.sipush 201, 3) := by decide +kernel
theorem d_Model_gates_218 : decode b_Model_gates 218 = .ok (.iload_n 2, 1) := by decide +kernel
theorem d_Model_gates_219 : decode b_Model_gates 219 = .ok (.imul, 1) := by decide +kernel
theorem d_Model_gates_220 : decode b_Model_gates 220 = .ok (.aload_n 0, 1) := by decide +kernel
theorem d_Model_gates_221 : decode b_Model_gates 221 = .ok (.getfield 36, 3) := by decide +kernel
theorem d_Model_gates_224 : decode b_Model_gates 224 = .ok (.iload 4, 2) := by decide +kernel
theorem d_Model_gates_226 : decode b_Model_gates 226 = .ok (.iaload, 1) := by decide +kernel
theorem d_Model_gates_227 : decode b_Model_gates 227 = .ok (.iconst 2, 1) := by decide +kernel
theorem d_Model_gates_228 : decode b_Model_gates 228 = .ok (.idiv, 1) := by decide +kernel
theorem d_Model_gates_229 : decode b_Model_gates 229 = .ok (.iadd, 1) := by decide +kernel
theorem d_Model_gates_230 : decode b_Model_gates 230 = .ok (.aload_n 0, 1) := by decide +kernel
theorem d_Model_gates_231 : decode b_Model_gates 231 = .ok (.aload_n 0, 1) := by decide +kernel
theorem d_Model_gates_232 : decode b_Model_gates 232 = .ok (.iload_n 2, 1) := by decide +kernel
theorem d_Model_gates_233 : decode b_Model_gates 233 = .ok (.aload_n 0, 1) := by decide +kernel
theorem d_Model_gates_234 : decode b_Model_gates 234 = .ok (.getfield 39, 3) := by decide +kernel
theorem d_Model_gates_237 : decode b_Model_gates 237 = .ok (.iload 4, 2) := by decide +kernel
theorem d_Model_gates_239 : decode b_Model_gates 239 = .ok (.iaload, 1) := by decide +kernel
theorem d_Model_gates_240 : decode b_Model_gates 240 = .ok (.invokevirtual 314, 3) := by decide +kernel
theorem d_Model_gates_243 : decode b_Model_gates 243 = .ok (.aload_n 0, 1) := by decide +kernel
theorem d_Model_gates_244 : decode b_Model_gates 244 = .ok (.iload_n 2, 1) := by decide +kernel
theorem d_Model_gates_245 : decode b_Model_gates 245 = .ok (.aload_n 0, 1) := by decide +kernel
theorem d_Model_gates_246 : decode b_Model_gates 246 = .ok (.getfield 42, 3) := by decide +kernel
theorem d_Model_gates_249 : decode b_Model_gates 249 = .ok (.iload 4, 2) := by decide +kernel
theorem d_Model_gates_251 : decode b_Model_gates 251 = .ok (.iaload, 1) := by decide +kernel
theorem d_Model_gates_252 : decode b_Model_gates 252 = .ok (.invokevirtual 314, 3) := by decide +kernel
theorem d_Model_gates_255 : decode b_Model_gates 255 = .ok (.iload_n 1, 1) := by decide +kernel
theorem d_Model_gates_256 : decode b_Model_gates 256 = .ok (.invokevirtual 317, 3) := by decide +kernel
theorem d_Model_gates_259 : decode b_Model_gates 259 = .ok (.iastore, 1) := by decide +kernel
theorem d_Model_gates_260 : decode b_Model_gates 260 = .ok (.iinc 3 1, 3) := by decide +kernel
theorem d_Model_gates_263 : decode b_Model_gates 263 = .ok (.goto (-86), 3) := by decide +kernel
theorem d_Model_gates_266 : decode b_Model_gates 266 = .ok (.iinc 2 1, 3) := by decide +kernel
theorem d_Model_gates_269 : decode b_Model_gates 269 = .ok (.goto (-229), 3) := by decide +kernel
theorem d_Model_gates_272 : decode b_Model_gates 272 = .ok (.aload_n 0, 1) := by decide +kernel
theorem d_Model_gates_273 : decode b_Model_gates 273 = .ok (.getfield 311, 3) := by decide +kernel
theorem d_Model_gates_276 : decode b_Model_gates 276 = .ok (.ireturn, 1) := by decide +kernel
